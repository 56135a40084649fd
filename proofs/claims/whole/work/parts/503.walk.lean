/-! WALKS OF THE REFERENCE'S METHODS, by program -/
theorem rf_endBaseR (L : Nat) (ys : Nat → Int32) (d : Nat) (s0 : im_S) (hT0 : uI s0)  : icV gG rm_P L ys (d + 4) 31 [(2, ((582 : Nat) : Int))] s0 (fun s => uI s ∧ ur [(0, 2), (0, 3), (0, 4), (8, 1000), (9, 1000), (10, 1000), (14, 1000)] s0 s ∧ s0.1 582 4 ≤ s.1 582 4 ∧ s0.1 582 2 ≤ s.1 582 2) := by
  refine ic_startM (M := rm_p_X10_endBase) om_X10_endBase (Nat.le_of_ble_eq_true rfl) ?_
  refine ir_w [(0, (2, ((582 : Nat) : Int)))] ⟨rfl, trivial⟩ ?_
  have hF0 := ur_refl [(0, 2), (0, 3), (0, 4), (8, 1000), (9, 1000), (10, 1000), (14, 1000)] s0
  have J152 : ∀ (s_152 : im_S) (hT_152 : uI s_152) (hF_152 : ur [(0, 2), (0, 3), (0, 4), (8, 1000), (9, 1000), (10, 1000), (14, 1000)] s0 s_152) (w152_582_1 : Int) (w152_582_1l : 0 ≤ w152_582_1) (w152_582_1h : w152_582_1 ≤ 400) (w152_582_1e : s_152.1 582 1 = w152_582_1) (w152_582_2 : Int) (w152_582_2l : 0 ≤ w152_582_2) (w152_582_2h : w152_582_2 ≤ 3) (w152_582_2e : s_152.1 582 2 = w152_582_2) (w152_582_4 : Int) (w152_582_4l : 0 ≤ w152_582_4) (w152_582_4h : w152_582_4 ≤ 400) (w152_582_4e : s_152.1 582 4 = w152_582_4) (w152_582_20e : s_152.1 582 20 = ((595 : Nat) : Int)) (w152_582_21 : Int) (w152_582_21l : 0 ≤ w152_582_21) (w152_582_21h : w152_582_21 ≤ 10) (w152_582_21e : s_152.1 582 21 = w152_582_21) (i152_0 : s0.1 582 4 ≤ w152_582_4) (i152_1 : s0.1 582 2 ≤ w152_582_2), ir gG rm_P L ys (d + 3) rm_p_X10_endBase (152, [], [], s_152) (fun r : im_Re => r.1 = none ∧ (uI r.2 ∧ ur [(0, 2), (0, 3), (0, 4), (8, 1000), (9, 1000), (10, 1000), (14, 1000)] s0 r.2 ∧ s0.1 582 4 ≤ r.2.1 582 4 ∧ s0.1 582 2 ≤ r.2.1 582 2)) := by
    intro s_152 hT_152 hF_152 w152_582_1 w152_582_1l w152_582_1h w152_582_1e w152_582_2 w152_582_2l w152_582_2h w152_582_2e w152_582_4 w152_582_4l w152_582_4h w152_582_4e w152_582_20e w152_582_21 w152_582_21l w152_582_21h w152_582_21e i152_0 i152_1
    exact ir_vret rfl rfl ⟨rfl, hT_152, hF_152, (by first | omega | (dsimp only; omega)), (by first | omega | (dsimp only; omega))⟩
  have J96 : ∀ n : Nat, ∀ (q96_l1 : Int) (q96_l1l : 0 ≤ q96_l1) (q96_l1h : q96_l1 ≤ 9) (s_96 : im_S) (hT_96 : uI s_96) (hF_96 : ur [(0, 2), (0, 3), (0, 4), (8, 1000), (9, 1000), (10, 1000), (14, 1000)] s0 s_96) (w96_582_1 : Int) (w96_582_1l : 0 ≤ w96_582_1) (w96_582_1h : w96_582_1 ≤ 400) (w96_582_1e : s_96.1 582 1 = w96_582_1) (w96_582_2 : Int) (w96_582_2l : 0 ≤ w96_582_2) (w96_582_2h : w96_582_2 ≤ 3) (w96_582_2e : s_96.1 582 2 = w96_582_2) (w96_582_4 : Int) (w96_582_4l : 0 ≤ w96_582_4) (w96_582_4h : w96_582_4 ≤ 400) (w96_582_4e : s_96.1 582 4 = w96_582_4) (w96_582_20e : s_96.1 582 20 = ((595 : Nat) : Int)) (w96_582_21 : Int) (w96_582_21l : 0 ≤ w96_582_21) (w96_582_21h : w96_582_21 ≤ 10) (w96_582_21e : s_96.1 582 21 = w96_582_21) (i96_0 : s0.1 582 4 ≤ w96_582_4) (i96_1 : s0.1 582 2 ≤ w96_582_2), (9 + 1 - q96_l1) ≤ (n : Int) → ir gG rm_P L ys (d + 3) rm_p_X10_endBase (96, [(0, (2, ((582 : Nat) : Int))), (1, (0, q96_l1))], [], s_96) (fun r : im_Re => r.1 = none ∧ (uI r.2 ∧ ur [(0, 2), (0, 3), (0, 4), (8, 1000), (9, 1000), (10, 1000), (14, 1000)] s0 r.2 ∧ s0.1 582 4 ≤ r.2.1 582 4 ∧ s0.1 582 2 ≤ r.2.1 582 2)) := by
    intro n
    induction n with
    | zero => intro q96_l1 q96_l1l q96_l1h s_96 hT_96 hF_96 w96_582_1 w96_582_1l w96_582_1h w96_582_1e w96_582_2 w96_582_2l w96_582_2h w96_582_2e w96_582_4 w96_582_4l w96_582_4h w96_582_4e w96_582_20e w96_582_21 w96_582_21l w96_582_21h w96_582_21e i96_0 i96_1 hr; exfalso; omega
    | succ n ih96 =>
      intro q96_l1 q96_l1l q96_l1h s_96 hT_96 hF_96 w96_582_1 w96_582_1l w96_582_1h w96_582_1e w96_582_2 w96_582_2l w96_582_2h w96_582_2e w96_582_4 w96_582_4l w96_582_4h w96_582_4e w96_582_20e w96_582_21 w96_582_21l w96_582_21h w96_582_21e i96_0 i96_1 hr
      refine ir_l (pc' := 97) rfl rfl rfl rfl rfl rfl ?_
      refine ir_k (pc' := 99) (v := (0, 9)) rfl rfl rfl (fun _ => rfl) ?_
      refine ir_c_ge (pt := 136) (pc' := 102) rfl rfl rfl (fun c1 => ?_) (fun c1 => ?_)
      · refine ir_goto (pc' := 152) rfl rfl ?_
        refine ir_w [] trivial ?_
        exact J152 s_96 hT_96 hF_96 (w96_582_1) (by omega) (by omega) w96_582_1e (w96_582_2) (by omega) (by omega) w96_582_2e (w96_582_4) (by omega) (by omega) w96_582_4e w96_582_20e (w96_582_21) (by omega) (by omega) w96_582_21e (by omega) (by omega)
      · refine ir_l (pc' := 103) rfl rfl rfl rfl rfl rfl ?_
        refine ir_ugr (pc' := 106) rfl rfl rfl uf_0_15 usk_0 hT_96 (fun b2 b2e b2k => ?_)
        obtain rfl := usg_8 b2k
        refine ir_k (pc' := 108) (v := (0, 9)) rfl rfl rfl (fun _ => rfl) ?_
        refine ir_l (pc' := 109) rfl rfl rfl rfl rfl rfl ?_
        refine ir_getI (pc' := 112) rfl rfl rfl (hG_at usk_0) rfl (by decide) (by decide) w96_582_21e (by omega) (by omega) ?_
        refine ir_mul (pc' := 113) rfl rfl (by omega) (by omega) ?_
        refine ir_l (pc' := 114) rfl rfl rfl rfl rfl rfl ?_
        refine ir_add (pc' := 115) rfl rfl (by omega) (by omega) ?_
        refine ir_l (pc' := 116) rfl rfl rfl rfl rfl rfl ?_
        refine ir_ugr (pc' := 119) rfl rfl rfl uf_0_16 usk_0 hT_96 (fun b3 b3e b3k => ?_)
        obtain rfl := usg_9 b3k
        refine ir_k (pc' := 121) (v := (0, 9)) rfl rfl rfl (fun _ => rfl) ?_
        refine ir_l (pc' := 122) rfl rfl rfl rfl rfl rfl ?_
        refine ir_getI (pc' := 125) rfl rfl rfl (hG_at usk_0) rfl (by decide) (by decide) w96_582_21e (by omega) (by omega) ?_
        refine ir_mul (pc' := 126) rfl rfl (by omega) (by omega) ?_
        refine ir_l (pc' := 127) rfl rfl rfl rfl rfl rfl ?_
        refine ir_add (pc' := 128) rfl rfl (by omega) (by omega) ?_
        refine ir_ula (pc' := 129) rfl rfl ue_9 (by decide) usk_9 hT_96 (by omega) (by omega) (fun z4 z4e z4l z4h => ?_)
        clear z4e
        refine ir_uls (pc' := 130) rfl rfl ue_8 usk_8 hT_96 (by omega) (by omega) (by omega) (by omega) (fun s5 hT5 r5 o5 => ?_)
        have hF5 := ur_row (k := 8) hF_96 (by decide) usk_8 r5 o5
        have e6 : s5.1 582 1 = w96_582_1 := by rw [r5]; exact w96_582_1e
        have e7 : s5.1 582 2 = w96_582_2 := by rw [r5]; exact w96_582_2e
        have e8 : s5.1 582 4 = w96_582_4 := by rw [r5]; exact w96_582_4e
        have e9 : s5.1 582 20 = ((595 : Nat) : Int) := by rw [r5]; exact w96_582_20e
        have e10 : s5.1 582 21 = w96_582_21 := by rw [r5]; exact w96_582_21e
        have e11 : s5.1 582 15 = ((590 : Nat) : Int) := by rw [r5]; exact b2e
        have e12 : s5.1 582 16 = ((591 : Nat) : Int) := by rw [r5]; exact b3e
        refine ir_inc (pc' := 133) rfl rfl rfl rfl rfl (by omega) (by omega) ?_
        refine ir_goto (pc' := 96) rfl rfl ?_
        refine ir_w [(0, (2, ((582 : Nat) : Int))), (1, (0, (q96_l1 + 1)))] ⟨rfl, rfl, trivial⟩ ?_
        exact ih96 ((q96_l1 + 1)) (by omega) (by omega) s5 hT5 hF5 (w96_582_1) (by omega) (by omega) e6 (w96_582_2) (by omega) (by omega) e7 (w96_582_4) (by omega) (by omega) e8 e9 (w96_582_21) (by omega) (by omega) e10 (by omega) (by omega) (by omega)
  have J74 : ∀ (s_74 : im_S) (hT_74 : uI s_74) (hF_74 : ur [(0, 2), (0, 3), (0, 4), (8, 1000), (9, 1000), (10, 1000), (14, 1000)] s0 s_74) (w74_582_1 : Int) (w74_582_1l : 0 ≤ w74_582_1) (w74_582_1h : w74_582_1 ≤ 400) (w74_582_1e : s_74.1 582 1 = w74_582_1) (w74_582_2 : Int) (w74_582_2l : 0 ≤ w74_582_2) (w74_582_2h : w74_582_2 ≤ 3) (w74_582_2e : s_74.1 582 2 = w74_582_2) (w74_582_4 : Int) (w74_582_4l : 0 ≤ w74_582_4) (w74_582_4h : w74_582_4 ≤ 400) (w74_582_4e : s_74.1 582 4 = w74_582_4) (i74_0 : s0.1 582 4 ≤ w74_582_4) (i74_1 : s0.1 582 2 ≤ w74_582_2), ir gG rm_P L ys (d + 3) rm_p_X10_endBase (74, [(0, (2, ((582 : Nat) : Int)))], [], s_74) (fun r : im_Re => r.1 = none ∧ (uI r.2 ∧ ur [(0, 2), (0, 3), (0, 4), (8, 1000), (9, 1000), (10, 1000), (14, 1000)] s0 r.2 ∧ s0.1 582 4 ≤ r.2.1 582 4 ∧ s0.1 582 2 ≤ r.2.1 582 2)) := by
    intro s_74 hT_74 hF_74 w74_582_1 w74_582_1l w74_582_1h w74_582_1e w74_582_2 w74_582_2l w74_582_2h w74_582_2e w74_582_4 w74_582_4l w74_582_4h w74_582_4e i74_0 i74_1
    refine ir_l (pc' := 75) rfl rfl rfl rfl rfl rfl ?_
    refine ir_cVI (pc' := 78) rfl rfl rfl rfl rfl (Nat.le_of_ble_eq_true rfl) oo_X10_good (hG_at usk_0) (rf_goodR L ys (d + 2) s_74 hT_74  ) (fun z13 s14 hr => ?_)
    obtain ⟨hT14, hG14, z13l, z13h, p14_0⟩ := hr
    have hF14 := ur_trans hF_74 hG14 (by decide)
    have e15 : s14.1 582 1 = w74_582_1 := (hG14.1 _ _ usk_0 1 (by decide)).trans w74_582_1e
    have e16 : s14.1 582 2 = w74_582_2 := (hG14.1 _ _ usk_0 2 (by decide)).trans w74_582_2e
    have e17 : s14.1 582 4 = w74_582_4 := (hG14.1 _ _ usk_0 4 (by decide)).trans w74_582_4e
    refine ir_z_ne (pt := 82) (pc' := 81) rfl rfl rfl (fun c18 => ?_) (fun c18 => ?_)
    · refine ir_l (pc' := 83) rfl rfl rfl rfl rfl rfl ?_
      refine ir_ugr (pc' := 86) rfl rfl rfl uf_0_20 usk_0 hT14 (fun b19 b19e b19k => ?_)
      obtain rfl := usg_13 b19k
      refine ir_l (pc' := 87) rfl rfl rfl rfl rfl rfl ?_
      refine ir_ugi (pc' := 90) rfl rfl rfl uf_0_21 usk_0 hT14 (fun z20 z20e z20l z20h => ?_)
      refine ir_uia (pc' := 91) rfl rfl ue_13 (by decide) usk_13 hT14 (by omega) (by omega) (fun z21 z21e z21l z21h => ?_)
      clear z21e
      refine ir_z_ge (pt := 139) (pc' := 94) rfl rfl rfl (fun c22 => ?_) (fun c22 => ?_)
      · refine ir_l (pc' := 140) rfl rfl rfl rfl rfl rfl ?_
        refine ir_l (pc' := 141) rfl rfl rfl rfl rfl rfl ?_
        refine ir_getR (pc' := 144) rfl rfl rfl (hG_at usk_0) rfl b19e ?_
        refine ir_l (pc' := 145) rfl rfl rfl rfl rfl rfl ?_
        refine ir_getI (pc' := 148) rfl rfl rfl (hG_at usk_0) rfl (by decide) (by decide) z20e (by omega) (by omega) ?_
        refine ir_uia (pc' := 149) rfl rfl ue_13 (by decide) usk_13 hT14 (by omega) (by omega) (fun z23 z23e z23l z23h => ?_)
        clear z23e
        refine ir_cVV (pc' := 152) rfl rfl rfl rfl rfl (Nat.le_of_ble_eq_true rfl) oo_X10_multiply (hG_at usk_0) (rf_multiplyR L ys (d + 1) s14 hT14 (z23) (by omega) (by omega) ) (fun s25 hr => ?_)
        obtain ⟨hT25, hG25, p25_0⟩ := hr
        have hF25 := ur_trans hF14 hG25 (by decide)
        have e26 : s25.1 582 1 = w74_582_1 := (hG25.1 _ _ usk_0 1 (by decide)).trans e15
        have e27 : s25.1 582 4 = w74_582_4 := (hG25.1 _ _ usk_0 4 (by decide)).trans e17
        have e28 : s25.1 582 20 = ((595 : Nat) : Int) := (hG25.1 _ _ usk_0 20 (by decide)).trans b19e
        have e29 : s25.1 582 21 = z20 := (hG25.1 _ _ usk_0 21 (by decide)).trans z20e
        obtain ⟨z30, z30e, z30l, z30h⟩ := uI_i uf_0_2 usk_0 hT25
        refine ir_w [] trivial ?_
        exact J152 s25 hT25 hF25 (w74_582_1) (by omega) (by omega) e26 (z30) (by omega) (by omega) z30e (w74_582_4) (by omega) (by omega) e27 e28 (z20) (by omega) (by omega) e29 (by omega) (by omega)
      · refine ir_k (pc' := 95) (v := (0, 0)) rfl rfl rfl (fun _ => rfl) ?_
        refine ir_s (pc' := 96) rfl rfl rfl rfl rfl rfl ?_
        refine ir_w [(0, (2, ((582 : Nat) : Int))), (1, (0, 0))] ⟨rfl, rfl, trivial⟩ ?_
        exact J96 _ (0) (by omega) (by omega) s14 hT14 hF14 (w74_582_1) (by omega) (by omega) e15 (w74_582_2) (by omega) (by omega) e16 (w74_582_4) (by omega) (by omega) e17 b19e (z20) (by omega) (by omega) z20e (by omega) (by omega) (Int.self_le_toNat _)
    · exact ir_vret rfl rfl ⟨rfl, hT14, hF14, (by first | omega | (dsimp only; omega)), (by first | omega | (dsimp only; omega))⟩
  have J67 : ∀ (s_67 : im_S) (hT_67 : uI s_67) (hF_67 : ur [(0, 2), (0, 3), (0, 4), (8, 1000), (9, 1000), (10, 1000), (14, 1000)] s0 s_67) (w67_582_1 : Int) (w67_582_1l : 0 ≤ w67_582_1) (w67_582_1h : w67_582_1 ≤ 400) (w67_582_1e : s_67.1 582 1 = w67_582_1) (w67_582_2 : Int) (w67_582_2l : 0 ≤ w67_582_2) (w67_582_2h : w67_582_2 ≤ 3) (w67_582_2e : s_67.1 582 2 = w67_582_2) (w67_582_4 : Int) (w67_582_4l : 0 ≤ w67_582_4) (w67_582_4h : w67_582_4 ≤ 400) (w67_582_4e : s_67.1 582 4 = w67_582_4) (i67_0 : s0.1 582 4 ≤ w67_582_4) (i67_1 : s0.1 582 2 ≤ w67_582_2), ir gG rm_P L ys (d + 3) rm_p_X10_endBase (67, [(0, (2, ((582 : Nat) : Int)))], [], s_67) (fun r : im_Re => r.1 = none ∧ (uI r.2 ∧ ur [(0, 2), (0, 3), (0, 4), (8, 1000), (9, 1000), (10, 1000), (14, 1000)] s0 r.2 ∧ s0.1 582 4 ≤ r.2.1 582 4 ∧ s0.1 582 2 ≤ r.2.1 582 2)) := by
    intro s_67 hT_67 hF_67 w67_582_1 w67_582_1l w67_582_1h w67_582_1e w67_582_2 w67_582_2l w67_582_2h w67_582_2e w67_582_4 w67_582_4l w67_582_4h w67_582_4e i67_0 i67_1
    refine ir_goto (pc' := 74) rfl rfl ?_
    refine ir_w [(0, (2, ((582 : Nat) : Int)))] ⟨rfl, trivial⟩ ?_
    exact J74 s_67 hT_67 hF_67 (w67_582_1) (by omega) (by omega) w67_582_1e (w67_582_2) (by omega) (by omega) w67_582_2e (w67_582_4) (by omega) (by omega) w67_582_4e (by omega) (by omega)
  obtain ⟨z31, z31e, z31l, z31h⟩ := uI_i uf_0_1 usk_0 hT0
  obtain ⟨z32, z32e, z32l, z32h⟩ := uI_i uf_0_2 usk_0 hT0
  obtain ⟨z33, z33e, z33l, z33h⟩ := uI_i uf_0_4 usk_0 hT0
  refine ir_l (pc' := 1) rfl rfl rfl rfl rfl rfl ?_
  refine ir_cVV (pc' := 4) rfl rfl rfl rfl rfl (Nat.le_of_ble_eq_true rfl) oo_X10_look (hG_at usk_0) (rf_lookR L ys d s0 hT0  ) (fun s35 hr => ?_)
  obtain ⟨hT35, hG35, p35_0, p35_1⟩ := hr
  have hF35 := ur_trans hF0 hG35 (by decide)
  have e36 : s35.1 582 1 = z31 := (hG35.1 _ _ usk_0 1 (by decide)).trans z31e
  obtain ⟨z37, z37e, z37l, z37h⟩ := uI_i uf_0_2 usk_0 hT35
  obtain ⟨z38, z38e, z38l, z38h⟩ := uI_i uf_0_4 usk_0 hT35
  refine ir_l (pc' := 5) rfl rfl rfl rfl rfl rfl ?_
  refine ir_cVI (pc' := 8) rfl rfl rfl rfl rfl (Nat.le_of_ble_eq_true rfl) oo_X10_good (hG_at usk_0) (rf_goodR L ys (d + 2) s35 hT35  ) (fun z39 s40 hr => ?_)
  obtain ⟨hT40, hG40, z39l, z39h, p40_0⟩ := hr
  have hF40 := ur_trans hF35 hG40 (by decide)
  have e41 : s40.1 582 1 = z31 := (hG40.1 _ _ usk_0 1 (by decide)).trans e36
  have e42 : s40.1 582 2 = z37 := (hG40.1 _ _ usk_0 2 (by decide)).trans z37e
  have e43 : s40.1 582 4 = z38 := (hG40.1 _ _ usk_0 4 (by decide)).trans z38e
  refine ir_z_eq (pt := 74) (pc' := 11) rfl rfl rfl (fun c44 => ?_) (fun c44 => ?_)
  · refine ir_w [(0, (2, ((582 : Nat) : Int)))] ⟨rfl, trivial⟩ ?_
    exact J74 s40 hT40 hF40 (z31) (by omega) (by omega) e41 (z37) (by omega) (by omega) e42 (z38) (by omega) (by omega) e43 (by omega) (by omega)
  · refine ir_l (pc' := 12) rfl rfl rfl rfl rfl rfl ?_
    refine ir_cVI (pc' := 15) rfl rfl rfl rfl rfl (Nat.le_of_ble_eq_true rfl) oo_X10_peek (hG_at usk_0) (rf_peekR L ys (d + 2) s40 hT40  ) (fun z45 s46 hr => ?_)
    obtain ⟨hT46, hG46, z45l, z45h, p46_0, p46_1⟩ := hr
    have hF46 := ur_trans hF40 hG46 (by decide)
    have e47 : s46.1 582 1 = z31 := (hG46.1 _ _ usk_0 1 (by decide)).trans e41
    have e48 : s46.1 582 2 = z37 := (hG46.1 _ _ usk_0 2 (by decide)).trans e42
    obtain ⟨z49, z49e, z49l, z49h⟩ := uI_i uf_0_4 usk_0 hT46
    refine ir_k (pc' := 17) (v := (0, 94)) rfl rfl rfl (fun _ => rfl) ?_
    refine ir_c_ne (pt := 74) (pc' := 20) rfl rfl rfl (fun c50 => ?_) (fun c50 => ?_)
    · refine ir_w [(0, (2, ((582 : Nat) : Int)))] ⟨rfl, trivial⟩ ?_
      exact J74 s46 hT46 hF46 (z31) (by omega) (by omega) e47 (z37) (by omega) (by omega) e48 (z49) (by omega) (by omega) z49e (by omega) (by omega)
    · refine ir_l (pc' := 21) rfl rfl rfl rfl rfl rfl ?_
      refine ir_getI (pc' := 24) rfl rfl rfl (hG_at usk_0) rfl (by decide) (by decide) z49e (by omega) (by omega) ?_
      refine ir_s (pc' := 25) rfl rfl rfl rfl rfl rfl ?_
      refine ir_l (pc' := 26) rfl rfl rfl rfl rfl rfl ?_
      refine ir_x (pc' := 27) rfl rfl rfl (fun _ => rfl) ?_
      refine ir_getI (pc' := 30) rfl rfl rfl (hG_at usk_0) rfl (by decide) (by decide) z49e (by omega) (by omega) ?_
      refine ir_k (pc' := 31) (v := (0, 1)) rfl rfl rfl (fun _ => rfl) ?_
      refine ir_add (pc' := 32) rfl rfl (by omega) (by omega) ?_
      refine ir_upi (pc' := 35) rfl rfl rfl uf_0_4 rfl usk_0 hT46 rfl (by omega) (by omega) (fun s51 hT51 e51 g51 r51 => ?_)
      have hF51 := ur_put (k := 0) hF46 (by decide) usk_0 g51 r51
      have e52 : s51.1 582 1 = z31 := (g51 582 1 (fun z => absurd z.2 (by decide))).trans e47
      have e53 : s51.1 582 2 = z37 := (g51 582 2 (fun z => absurd z.2 (by decide))).trans e48
      refine ir_l (pc' := 36) rfl rfl rfl rfl rfl rfl ?_
      refine ir_cVI (pc' := 39) rfl rfl rfl rfl rfl (Nat.le_of_ble_eq_true rfl) oo_X10_peek (hG_at usk_0) (rf_peekR L ys (d + 2) s51 hT51  ) (fun z54 s55 hr => ?_)
      obtain ⟨hT55, hG55, z54l, z54h, p55_0, p55_1⟩ := hr
      have hF55 := ur_trans hF51 hG55 (by decide)
      have e56 : s55.1 582 1 = z31 := (hG55.1 _ _ usk_0 1 (by decide)).trans e52
      have e57 : s55.1 582 2 = z37 := (hG55.1 _ _ usk_0 2 (by decide)).trans e53
      obtain ⟨z58, z58e, z58l, z58h⟩ := uI_i uf_0_4 usk_0 hT55
      refine ir_cSI (pc' := 42) rfl rfl rfl rfl rfl rfl (Nat.le_of_ble_eq_true rfl) (rf_isDigitR L ys (d + 2) s55 hT55 (z54) (by omega) (by omega) ) (fun z59 s60 hr => ?_)
      obtain ⟨hT60, hG60, z59l, z59h⟩ := hr
      have hF60 := ur_trans hF55 hG60 (by decide)
      have e61 : s60.1 582 1 = z31 := (hG60.1 _ _ usk_0 1 (by decide)).trans e56
      have e62 : s60.1 582 2 = z37 := (hG60.1 _ _ usk_0 2 (by decide)).trans e57
      have e63 : s60.1 582 4 = z58 := (hG60.1 _ _ usk_0 4 (by decide)).trans z58e
      refine ir_z_eq (pt := 70) (pc' := 45) rfl rfl rfl (fun c64 => ?_) (fun c64 => ?_)
      · refine ir_l (pc' := 71) rfl rfl rfl rfl rfl rfl ?_
        refine ir_cVV (pc' := 74) rfl rfl rfl rfl rfl (Nat.le_of_ble_eq_true rfl) oo_X10_cannot (hG_at usk_0) (rf_cannotR L ys d s60 hT60  ) (fun s66 hr => ?_)
        obtain ⟨hT66, hG66, p66_0, p66_1, p66_2⟩ := hr
        have hF66 := ur_trans hF60 hG66 (by decide)
        have e67 : s66.1 582 1 = z31 := (hG66.1 _ _ usk_0 1 (by decide)).trans e61
        obtain ⟨z68, z68e, z68l, z68h⟩ := uI_i uf_0_2 usk_0 hT66
        obtain ⟨z69, z69e, z69l, z69h⟩ := uI_i uf_0_4 usk_0 hT66
        refine ir_w [(0, (2, ((582 : Nat) : Int)))] ⟨rfl, trivial⟩ ?_
        exact J74 s66 hT66 hF66 (z31) (by omega) (by omega) e67 (z68) (by omega) (by omega) z68e (z69) (by omega) (by omega) z69e (by omega) (by omega)
      · refine ir_l (pc' := 46) rfl rfl rfl rfl rfl rfl ?_
        refine ir_cVI (pc' := 49) rfl rfl rfl rfl rfl (Nat.le_of_ble_eq_true rfl) oo_X10_number (hG_at usk_0) (rf_numberR L ys (d + 1) s60 hT60  ) (fun z70 s71 hr => ?_)
        obtain ⟨hT71, hG71, z70l, z70h, p71_0, p71_1⟩ := hr
        have hF71 := ur_trans hF60 hG71 (by decide)
        have e72 : s71.1 582 1 = z31 := (hG71.1 _ _ usk_0 1 (by decide)).trans e61
        obtain ⟨z73, z73e, z73l, z73h⟩ := uI_i uf_0_2 usk_0 hT71
        obtain ⟨z74, z74e, z74l, z74h⟩ := uI_i uf_0_4 usk_0 hT71
        refine ir_s (pc' := 50) rfl rfl rfl rfl rfl rfl ?_
        refine ir_l (pc' := 51) rfl rfl rfl rfl rfl rfl ?_
        refine ir_cVV (pc' := 54) rfl rfl rfl rfl rfl (Nat.le_of_ble_eq_true rfl) oo_X10_look (hG_at usk_0) (rf_lookR L ys d s71 hT71  ) (fun s76 hr => ?_)
        obtain ⟨hT76, hG76, p76_0, p76_1⟩ := hr
        have hF76 := ur_trans hF71 hG76 (by decide)
        have e77 : s76.1 582 1 = z31 := (hG76.1 _ _ usk_0 1 (by decide)).trans e72
        obtain ⟨z78, z78e, z78l, z78h⟩ := uI_i uf_0_2 usk_0 hT76
        obtain ⟨z79, z79e, z79l, z79h⟩ := uI_i uf_0_4 usk_0 hT76
        refine ir_l (pc' := 55) rfl rfl rfl rfl rfl rfl ?_
        refine ir_cVI (pc' := 58) rfl rfl rfl rfl rfl (Nat.le_of_ble_eq_true rfl) oo_X10_good (hG_at usk_0) (rf_goodR L ys (d + 2) s76 hT76  ) (fun z80 s81 hr => ?_)
        obtain ⟨hT81, hG81, z80l, z80h, p81_0⟩ := hr
        have hF81 := ur_trans hF76 hG81 (by decide)
        have e82 : s81.1 582 1 = z31 := (hG81.1 _ _ usk_0 1 (by decide)).trans e77
        have e83 : s81.1 582 2 = z78 := (hG81.1 _ _ usk_0 2 (by decide)).trans z78e
        have e84 : s81.1 582 4 = z79 := (hG81.1 _ _ usk_0 4 (by decide)).trans z79e
        refine ir_z_eq (pt := 67) (pc' := 61) rfl rfl rfl (fun c85 => ?_) (fun c85 => ?_)
        · refine ir_w [(0, (2, ((582 : Nat) : Int)))] ⟨rfl, trivial⟩ ?_
          exact J67 s81 hT81 hF81 (z31) (by omega) (by omega) e82 (z78) (by omega) (by omega) e83 (z79) (by omega) (by omega) e84 (by omega) (by omega)
        · refine ir_l (pc' := 62) rfl rfl rfl rfl rfl rfl ?_
          refine ir_l (pc' := 63) rfl rfl rfl rfl rfl rfl ?_
          refine ir_l (pc' := 64) rfl rfl rfl rfl rfl rfl ?_
          refine ir_cVV (pc' := 67) rfl rfl rfl rfl rfl (Nat.le_of_ble_eq_true rfl) oo_X10_raise (hG_at usk_0) (rf_raiseR L ys d s81 hT81 (z70) (by omega) (by omega) (z49) (by omega) (by omega) ) (fun s87 hr => ?_)
          obtain ⟨hT87, hG87, p87_0⟩ := hr
          have hF87 := ur_trans hF81 hG87 (by decide)
          have e88 : s87.1 582 1 = z31 := (hG87.1 _ _ usk_0 1 (by decide)).trans e82
          have e89 : s87.1 582 4 = z79 := (hG87.1 _ _ usk_0 4 (by decide)).trans e84
          obtain ⟨z90, z90e, z90l, z90h⟩ := uI_i uf_0_2 usk_0 hT87
          refine ir_w [(0, (2, ((582 : Nat) : Int)))] ⟨rfl, trivial⟩ ?_
          exact J67 s87 hT87 hF87 (z31) (by omega) (by omega) e88 (z90) (by omega) (by omega) z90e (z79) (by omega) (by omega) e89 (by omega) (by omega)
theorem rf_endBracketR (L : Nat) (ys : Nat → Int32) (d : Nat) (s0 : im_S) (hT0 : uI s0) (x1 : Int) (x1l : -1 ≤ x1) (x1h : x1 ≤ 126) (pr0 : (x1 = -1 ∨ s0.1 582 4 < s0.1 582 1)) (pr1 : s0.1 582 2 = 0) (pr2 : 1 ≤ s0.1 582 21) : icV gG rm_P L ys (d + 5) 32 [(2, ((582 : Nat) : Int)), (0, x1)] s0 (fun s => uI s ∧ ur [(0, 2), (0, 3), (0, 4), (0, 21), (8, 1000), (9, 1000), (10, 1000), (14, 1000)] s0 s ∧ s0.1 582 4 ≤ s.1 582 4 ∧ s0.1 582 2 ≤ s.1 582 2 ∧ s0.1 582 4 + s0.1 582 2 < s.1 582 4 + s.1 582 2) := by
  refine ic_startM (M := rm_p_X10_endBracket) om_X10_endBracket (Nat.le_of_ble_eq_true rfl) ?_
  refine ir_w [(0, (2, ((582 : Nat) : Int))), (1, (0, x1))] ⟨rfl, rfl, trivial⟩ ?_
  have hF0 := ur_refl [(0, 2), (0, 3), (0, 4), (0, 21), (8, 1000), (9, 1000), (10, 1000), (14, 1000)] s0
  have J33 : ∀ n : Nat, ∀ (q33_l2 : Int) (q33_l2l : 0 ≤ q33_l2) (q33_l2h : q33_l2 ≤ 9) (s_33 : im_S) (hT_33 : uI s_33) (hF_33 : ur [(0, 2), (0, 3), (0, 4), (0, 21), (8, 1000), (9, 1000), (10, 1000), (14, 1000)] s0 s_33) (w33_582_1 : Int) (w33_582_1l : 0 ≤ w33_582_1) (w33_582_1h : w33_582_1 ≤ 400) (w33_582_1e : s_33.1 582 1 = w33_582_1) (w33_582_2 : Int) (w33_582_2l : 0 ≤ w33_582_2) (w33_582_2h : w33_582_2 ≤ 3) (w33_582_2e : s_33.1 582 2 = w33_582_2) (w33_582_4 : Int) (w33_582_4l : 1 ≤ w33_582_4) (w33_582_4h : w33_582_4 ≤ 400) (w33_582_4e : s_33.1 582 4 = w33_582_4) (w33_582_21 : Int) (w33_582_21l : 0 ≤ w33_582_21) (w33_582_21h : w33_582_21 ≤ 9) (w33_582_21e : s_33.1 582 21 = w33_582_21) (i33_0 : s0.1 582 4 + 1 ≤ w33_582_4) (i33_1 : s0.1 582 4 ≤ w33_582_4) (i33_2 : s0.1 582 2 ≤ w33_582_2), (9 + 1 - q33_l2) ≤ (n : Int) → ir gG rm_P L ys (d + 4) rm_p_X10_endBracket (33, [(0, (2, ((582 : Nat) : Int))), (2, (0, q33_l2))], [], s_33) (fun r : im_Re => r.1 = none ∧ (uI r.2 ∧ ur [(0, 2), (0, 3), (0, 4), (0, 21), (8, 1000), (9, 1000), (10, 1000), (14, 1000)] s0 r.2 ∧ s0.1 582 4 ≤ r.2.1 582 4 ∧ s0.1 582 2 ≤ r.2.1 582 2 ∧ s0.1 582 4 + s0.1 582 2 < r.2.1 582 4 + r.2.1 582 2)) := by
    intro n
    induction n with
    | zero => intro q33_l2 q33_l2l q33_l2h s_33 hT_33 hF_33 w33_582_1 w33_582_1l w33_582_1h w33_582_1e w33_582_2 w33_582_2l w33_582_2h w33_582_2e w33_582_4 w33_582_4l w33_582_4h w33_582_4e w33_582_21 w33_582_21l w33_582_21h w33_582_21e i33_0 i33_1 i33_2 hr; exfalso; omega
    | succ n ih33 =>
      intro q33_l2 q33_l2l q33_l2h s_33 hT_33 hF_33 w33_582_1 w33_582_1l w33_582_1h w33_582_1e w33_582_2 w33_582_2l w33_582_2h w33_582_2e w33_582_4 w33_582_4l w33_582_4h w33_582_4e w33_582_21 w33_582_21l w33_582_21h w33_582_21e i33_0 i33_1 i33_2 hr
      refine ir_l (pc' := 34) rfl rfl rfl rfl rfl rfl ?_
      refine ir_k (pc' := 36) (v := (0, 9)) rfl rfl rfl (fun _ => rfl) ?_
      refine ir_c_ge (pt := 75) (pc' := 39) rfl rfl rfl (fun c1 => ?_) (fun c1 => ?_)
      · refine ir_l (pc' := 76) rfl rfl rfl rfl rfl rfl ?_
        refine ir_cVV (pc' := 79) rfl rfl rfl rfl rfl (Nat.le_of_ble_eq_true rfl) oo_X10_endBase (hG_at usk_0) (rf_endBaseR L ys d s_33 hT_33  ) (fun s3 hr => ?_)
        obtain ⟨hT3, hG3, p3_0, p3_1⟩ := hr
        have hF3 := ur_trans hF_33 hG3 (by decide)
        have e4 : s3.1 582 1 = w33_582_1 := (hG3.1 _ _ usk_0 1 (by decide)).trans w33_582_1e
        have e5 : s3.1 582 21 = w33_582_21 := (hG3.1 _ _ usk_0 21 (by decide)).trans w33_582_21e
        obtain ⟨z6, z6e, z6l, z6h⟩ := uI_i uf_0_2 usk_0 hT3
        obtain ⟨z7, z7e, z7l, z7h⟩ := uI_i uf_0_4 usk_0 hT3
        exact ir_vret rfl rfl ⟨rfl, hT3, hF3, (by first | omega | (dsimp only; omega)), (by first | omega | (dsimp only; omega)), (by first | omega | (dsimp only; omega))⟩
      · refine ir_l (pc' := 40) rfl rfl rfl rfl rfl rfl ?_
        refine ir_ugr (pc' := 43) rfl rfl rfl uf_0_16 usk_0 hT_33 (fun b8 b8e b8k => ?_)
        obtain rfl := usg_9 b8k
        refine ir_k (pc' := 45) (v := (0, 9)) rfl rfl rfl (fun _ => rfl) ?_
        refine ir_l (pc' := 46) rfl rfl rfl rfl rfl rfl ?_
        refine ir_getI (pc' := 49) rfl rfl rfl (hG_at usk_0) rfl (by decide) (by decide) w33_582_21e (by omega) (by omega) ?_
        refine ir_mul (pc' := 50) rfl rfl (by omega) (by omega) ?_
        refine ir_l (pc' := 51) rfl rfl rfl rfl rfl rfl ?_
        refine ir_add (pc' := 52) rfl rfl (by omega) (by omega) ?_
        refine ir_l (pc' := 53) rfl rfl rfl rfl rfl rfl ?_
        refine ir_ugr (pc' := 56) rfl rfl rfl uf_0_14 usk_0 hT_33 (fun b9 b9e b9k => ?_)
        obtain rfl := usg_7 b9k
        refine ir_k (pc' := 58) (v := (0, 9)) rfl rfl rfl (fun _ => rfl) ?_
        refine ir_l (pc' := 59) rfl rfl rfl rfl rfl rfl ?_
        refine ir_getI (pc' := 62) rfl rfl rfl (hG_at usk_0) rfl (by decide) (by decide) w33_582_21e (by omega) (by omega) ?_
        refine ir_k (pc' := 63) (v := (0, 1)) rfl rfl rfl (fun _ => rfl) ?_
        refine ir_add (pc' := 64) rfl rfl (by omega) (by omega) ?_
        refine ir_mul (pc' := 65) rfl rfl (by omega) (by omega) ?_
        refine ir_l (pc' := 66) rfl rfl rfl rfl rfl rfl ?_
        refine ir_add (pc' := 67) rfl rfl (by omega) (by omega) ?_
        refine ir_ula (pc' := 68) rfl rfl ue_7 (by decide) usk_7 hT_33 (by omega) (by omega) (fun z10 z10e z10l z10h => ?_)
        clear z10e
        refine ir_uls (pc' := 69) rfl rfl ue_9 usk_9 hT_33 (by omega) (by omega) (by omega) (by omega) (fun s11 hT11 r11 o11 => ?_)
        have hF11 := ur_row (k := 9) hF_33 (by decide) usk_9 r11 o11
        have e12 : s11.1 582 1 = w33_582_1 := by rw [r11]; exact w33_582_1e
        have e13 : s11.1 582 2 = w33_582_2 := by rw [r11]; exact w33_582_2e
        have e14 : s11.1 582 4 = w33_582_4 := by rw [r11]; exact w33_582_4e
        have e15 : s11.1 582 21 = w33_582_21 := by rw [r11]; exact w33_582_21e
        have e16 : s11.1 582 16 = ((591 : Nat) : Int) := by rw [r11]; exact b8e
        have e17 : s11.1 582 14 = ((589 : Nat) : Int) := by rw [r11]; exact b9e
        refine ir_inc (pc' := 72) rfl rfl rfl rfl rfl (by omega) (by omega) ?_
        refine ir_goto (pc' := 33) rfl rfl ?_
        refine ir_w [(0, (2, ((582 : Nat) : Int))), (2, (0, (q33_l2 + 1)))] ⟨rfl, rfl, trivial⟩ ?_
        exact ih33 ((q33_l2 + 1)) (by omega) (by omega) s11 hT11 hF11 (w33_582_1) (by omega) (by omega) e12 (w33_582_2) (by omega) (by omega) e13 (w33_582_4) (by omega) (by omega) e14 (w33_582_21) (by omega) (by omega) e15 (by omega) (by omega) (by omega) (by omega)
  obtain ⟨z18, z18e, z18l, z18h⟩ := uI_i uf_0_1 usk_0 hT0
  obtain ⟨z19, z19e, z19l, z19h⟩ := uI_i uf_0_2 usk_0 hT0
  obtain ⟨z20, z20e, z20l, z20h⟩ := uI_i uf_0_4 usk_0 hT0
  obtain ⟨z21, z21e, z21l, z21h⟩ := uI_i uf_0_21 usk_0 hT0
  refine ir_l (pc' := 1) rfl rfl rfl rfl rfl rfl ?_
  refine ir_k (pc' := 3) (v := (0, 41)) rfl rfl rfl (fun _ => rfl) ?_
  refine ir_c_eq (pt := 11) (pc' := 6) rfl rfl rfl (fun c22 => ?_) (fun c22 => ?_)
  · refine ir_l (pc' := 12) rfl rfl rfl rfl rfl rfl ?_
    refine ir_x (pc' := 13) rfl rfl rfl (fun _ => rfl) ?_
    refine ir_getI (pc' := 16) rfl rfl rfl (hG_at usk_0) rfl (by decide) (by decide) z20e (by omega) (by omega) ?_
    refine ir_k (pc' := 17) (v := (0, 1)) rfl rfl rfl (fun _ => rfl) ?_
    refine ir_add (pc' := 18) rfl rfl (by omega) (by omega) ?_
    refine ir_upi (pc' := 21) rfl rfl rfl uf_0_4 rfl usk_0 hT0 rfl (by omega) (by omega) (fun s23 hT23 e23 g23 r23 => ?_)
    have hF23 := ur_put (k := 0) hF0 (by decide) usk_0 g23 r23
    have e24 : s23.1 582 1 = z18 := (g23 582 1 (fun z => absurd z.2 (by decide))).trans z18e
    have e25 : s23.1 582 2 = z19 := (g23 582 2 (fun z => absurd z.2 (by decide))).trans z19e
    have e26 : s23.1 582 21 = z21 := (g23 582 21 (fun z => absurd z.2 (by decide))).trans z21e
    refine ir_l (pc' := 22) rfl rfl rfl rfl rfl rfl ?_
    refine ir_x (pc' := 23) rfl rfl rfl (fun _ => rfl) ?_
    refine ir_getI (pc' := 26) rfl rfl rfl (hG_at usk_0) rfl (by decide) (by decide) e26 (by omega) (by omega) ?_
    refine ir_k (pc' := 27) (v := (0, 1)) rfl rfl rfl (fun _ => rfl) ?_
    refine ir_sub (pc' := 28) rfl rfl (by omega) (by omega) ?_
    refine ir_upi (pc' := 31) rfl rfl rfl uf_0_21 rfl usk_0 hT23 rfl (by omega) (by omega) (fun s27 hT27 e27 g27 r27 => ?_)
    have hF27 := ur_put (k := 0) hF23 (by decide) usk_0 g27 r27
    have e28 : s27.1 582 1 = z18 := (g27 582 1 (fun z => absurd z.2 (by decide))).trans e24
    have e29 : s27.1 582 2 = z19 := (g27 582 2 (fun z => absurd z.2 (by decide))).trans e25
    have e30 : s27.1 582 4 = (z20 + 1) := (g27 582 4 (fun z => absurd z.2 (by decide))).trans e23
    refine ir_k (pc' := 32) (v := (0, 0)) rfl rfl rfl (fun _ => rfl) ?_
    refine ir_s (pc' := 33) rfl rfl rfl rfl rfl rfl ?_
    refine ir_w [(0, (2, ((582 : Nat) : Int))), (2, (0, 0))] ⟨rfl, rfl, trivial⟩ ?_
    exact J33 _ (0) (by omega) (by omega) s27 hT27 hF27 (z18) (by omega) (by omega) e28 (z19) (by omega) (by omega) e29 ((z20 + 1)) (by omega) (by omega) e30 ((z21 - 1)) (by omega) (by omega) e27 (by omega) (by omega) (by omega) (Int.self_le_toNat _)
  · refine ir_l (pc' := 7) rfl rfl rfl rfl rfl rfl ?_
    refine ir_cVV (pc' := 10) rfl rfl rfl rfl rfl (Nat.le_of_ble_eq_true rfl) oo_X10_cannot (hG_at usk_0) (rf_cannotR L ys (d + 1) s0 hT0  ) (fun s32 hr => ?_)
    obtain ⟨hT32, hG32, p32_0, p32_1, p32_2⟩ := hr
    have hF32 := ur_trans hF0 hG32 (by decide)
    have e33 : s32.1 582 1 = z18 := (hG32.1 _ _ usk_0 1 (by decide)).trans z18e
    have e34 : s32.1 582 21 = z21 := (hG32.1 _ _ usk_0 21 (by decide)).trans z21e
    obtain ⟨z35, z35e, z35l, z35h⟩ := uI_i uf_0_2 usk_0 hT32
    obtain ⟨z36, z36e, z36l, z36h⟩ := uI_i uf_0_4 usk_0 hT32
    exact ir_vret rfl rfl ⟨rfl, hT32, hF32, (by first | omega | (dsimp only; omega)), (by first | omega | (dsimp only; omega)), (by first | omega | (dsimp only; omega))⟩
theorem rf_endTermR (L : Nat) (ys : Nat → Int32) (d : Nat) (s0 : im_S) (hT0 : uI s0)  : icV gG rm_P L ys (d + 2) 33 [(2, ((582 : Nat) : Int))] s0 (fun s => uI s ∧ ur [(0, 2), (0, 3), (7, 1000), (13, 1000)] s0 s ∧ s0.1 582 2 ≤ s.1 582 2) := by
  refine ic_startM (M := rm_p_X10_endTerm) om_X10_endTerm (Nat.le_of_ble_eq_true rfl) ?_
  refine ir_w [(0, (2, ((582 : Nat) : Int)))] ⟨rfl, trivial⟩ ?_
  have hF0 := ur_refl [(0, 2), (0, 3), (7, 1000), (13, 1000)] s0
  have J2 : ∀ n : Nat, ∀ (q2_l1 : Int) (q2_l1l : 0 ≤ q2_l1) (q2_l1h : q2_l1 ≤ 9) (s_2 : im_S) (hT_2 : uI s_2) (hF_2 : ur [(0, 2), (0, 3), (7, 1000), (13, 1000)] s0 s_2) (w2_582_2 : Int) (w2_582_2l : 0 ≤ w2_582_2) (w2_582_2h : w2_582_2 ≤ 3) (w2_582_2e : s_2.1 582 2 = w2_582_2) (i2_0 : s0.1 582 2 ≤ w2_582_2), (9 + 1 - q2_l1) ≤ (n : Int) → ir gG rm_P L ys (d + 1) rm_p_X10_endTerm (2, [(0, (2, ((582 : Nat) : Int))), (1, (0, q2_l1))], [], s_2) (fun r : im_Re => r.1 = none ∧ (uI r.2 ∧ ur [(0, 2), (0, 3), (7, 1000), (13, 1000)] s0 r.2 ∧ s0.1 582 2 ≤ r.2.1 582 2)) := by
    intro n
    induction n with
    | zero => intro q2_l1 q2_l1l q2_l1h s_2 hT_2 hF_2 w2_582_2 w2_582_2l w2_582_2h w2_582_2e i2_0 hr; exfalso; omega
    | succ n ih2 =>
      intro q2_l1 q2_l1l q2_l1h s_2 hT_2 hF_2 w2_582_2 w2_582_2l w2_582_2h w2_582_2e i2_0 hr
      have J71 : ∀ (f71_1h : q2_l1 ≤ 8) (s_71 : im_S) (hT_71 : uI s_71) (hF_71 : ur [(0, 2), (0, 3), (7, 1000), (13, 1000)] s0 s_71) (w71_582_2 : Int) (w71_582_2l : 0 ≤ w71_582_2) (w71_582_2h : w71_582_2 ≤ 3) (w71_582_2e : s_71.1 582 2 = w71_582_2) (w71_582_14e : s_71.1 582 14 = ((589 : Nat) : Int)) (w71_582_15e : s_71.1 582 15 = ((590 : Nat) : Int)) (w71_582_18e : s_71.1 582 18 = ((593 : Nat) : Int)) (w71_582_21 : Int) (w71_582_21l : 0 ≤ w71_582_21) (w71_582_21h : w71_582_21 ≤ 10) (w71_582_21e : s_71.1 582 21 = w71_582_21) (i71_0 : s0.1 582 2 ≤ w71_582_2), ir gG rm_P L ys (d + 1) rm_p_X10_endTerm (71, [(0, (2, ((582 : Nat) : Int))), (1, (0, q2_l1))], [], s_71) (fun r : im_Re => r.1 = none ∧ (uI r.2 ∧ ur [(0, 2), (0, 3), (7, 1000), (13, 1000)] s0 r.2 ∧ s0.1 582 2 ≤ r.2.1 582 2)) := by
        intro f71_1h s_71 hT_71 hF_71 w71_582_2 w71_582_2l w71_582_2h w71_582_2e w71_582_14e w71_582_15e w71_582_18e w71_582_21 w71_582_21l w71_582_21h w71_582_21e i71_0
        refine ir_inc (pc' := 74) rfl rfl rfl rfl rfl (by omega) (by omega) ?_
        refine ir_goto (pc' := 2) rfl rfl ?_
        refine ir_w [(0, (2, ((582 : Nat) : Int))), (1, (0, (q2_l1 + 1)))] ⟨rfl, rfl, trivial⟩ ?_
        exact ih2 ((q2_l1 + 1)) (by omega) (by omega) s_71 hT_71 hF_71 (w71_582_2) (by omega) (by omega) w71_582_2e (by omega) (by omega)
      refine ir_l (pc' := 3) rfl rfl rfl rfl rfl rfl ?_
      refine ir_k (pc' := 5) (v := (0, 9)) rfl rfl rfl (fun _ => rfl) ?_
      refine ir_c_ge (pt := 77) (pc' := 8) rfl rfl rfl (fun c1 => ?_) (fun c1 => ?_)
      · refine ir_l (pc' := 78) rfl rfl rfl rfl rfl rfl ?_
        refine ir_ugr (pc' := 81) rfl rfl rfl uf_0_20 usk_0 hT_2 (fun b2 b2e b2k => ?_)
        obtain rfl := usg_13 b2k
        refine ir_l (pc' := 82) rfl rfl rfl rfl rfl rfl ?_
        refine ir_ugi (pc' := 85) rfl rfl rfl uf_0_21 usk_0 hT_2 (fun z3 z3e z3l z3h => ?_)
        refine ir_k (pc' := 86) (v := (0, (-1))) rfl rfl rfl (fun _ => rfl) ?_
        refine ir_uis (pc' := 87) rfl rfl rfl rfl ue_13 usk_13 hT_2 (by omega) (by omega) (rfl) (by omega) (by omega) (fun s4 hT4 r4 o4 => ?_)
        have hF4 := ur_row (k := 13) hF_2 (by decide) usk_13 r4 o4
        have e5 : s4.1 582 2 = w2_582_2 := by rw [r4]; exact w2_582_2e
        have e6 : s4.1 582 20 = ((595 : Nat) : Int) := by rw [r4]; exact b2e
        have e7 : s4.1 582 21 = z3 := by rw [r4]; exact z3e
        exact ir_vret rfl rfl ⟨rfl, hT4, hF4, (by first | omega | (dsimp only; omega))⟩
      · refine ir_k (pc' := 10) (v := (0, 9)) rfl rfl rfl (fun _ => rfl) ?_
        refine ir_l (pc' := 11) rfl rfl rfl rfl rfl rfl ?_
        refine ir_ugi (pc' := 14) rfl rfl rfl uf_0_21 usk_0 hT_2 (fun z8 z8e z8l z8h => ?_)
        refine ir_mul (pc' := 15) rfl rfl (by omega) (by omega) ?_
        refine ir_l (pc' := 16) rfl rfl rfl rfl rfl rfl ?_
        refine ir_add (pc' := 17) rfl rfl (by omega) (by omega) ?_
        refine ir_s (pc' := 18) rfl rfl rfl rfl rfl rfl ?_
        refine ir_l (pc' := 19) rfl rfl rfl rfl rfl rfl ?_
        refine ir_ugr (pc' := 22) rfl rfl rfl uf_0_14 usk_0 hT_2 (fun b9 b9e b9k => ?_)
        obtain rfl := usg_7 b9k
        refine ir_l (pc' := 23) rfl rfl rfl rfl rfl rfl ?_
        refine ir_x (pc' := 24) rfl rfl rfl (fun _ => rfl) ?_
        refine ir_ula (pc' := 25) rfl rfl ue_7 (by decide) usk_7 hT_2 (by omega) (by omega) (fun z10 z10e z10l z10h => ?_)
        clear z10e
        refine ir_l (pc' := 26) rfl rfl rfl rfl rfl rfl ?_
        refine ir_ugr (pc' := 29) rfl rfl rfl uf_0_18 usk_0 hT_2 (fun b11 b11e b11k => ?_)
        obtain rfl := usg_11 b11k
        refine ir_l (pc' := 30) rfl rfl rfl rfl rfl rfl ?_
        refine ir_getI (pc' := 33) rfl rfl rfl (hG_at usk_0) rfl (by decide) (by decide) z8e (by omega) (by omega) ?_
        refine ir_uia (pc' := 34) rfl rfl ue_11 (by decide) usk_11 hT_2 (by omega) (by omega) (fun z12 z12e z12l z12h => ?_)
        clear z12e
        refine ir_i2l (pc' := 35) rfl rfl (by omega) (by omega) ?_
        refine ir_l (pc' := 36) rfl rfl rfl rfl rfl rfl ?_
        refine ir_ugr (pc' := 39) rfl rfl rfl uf_0_15 usk_0 hT_2 (fun b13 b13e b13k => ?_)
        obtain rfl := usg_8 b13k
        refine ir_l (pc' := 40) rfl rfl rfl rfl rfl rfl ?_
        refine ir_ula (pc' := 41) rfl rfl ue_8 (by decide) usk_8 hT_2 (by omega) (by omega) (fun z14 z14e z14l z14h => ?_)
        clear z14e
        refine ir_jjA (pc' := 42) rfl rfl rfl rfl (fun z15 z15l z15h => ?_)
        refine ir_jjA (pc' := 43) rfl rfl rfl rfl (fun z16 z16l z16h => ?_)
        refine ir_uls (pc' := 44) rfl rfl ue_7 usk_7 hT_2 (by omega) (by omega) (by omega) (by omega) (fun s17 hT17 r17 o17 => ?_)
        have hF17 := ur_row (k := 7) hF_2 (by decide) usk_7 r17 o17
        have e18 : s17.1 582 2 = w2_582_2 := by rw [r17]; exact w2_582_2e
        have e19 : s17.1 582 21 = z8 := by rw [r17]; exact z8e
        have e20 : s17.1 582 14 = ((589 : Nat) : Int) := by rw [r17]; exact b9e
        have e21 : s17.1 582 18 = ((593 : Nat) : Int) := by rw [r17]; exact b11e
        have e22 : s17.1 582 15 = ((590 : Nat) : Int) := by rw [r17]; exact b13e
        refine ir_l (pc' := 45) rfl rfl rfl rfl rfl rfl ?_
        refine ir_l (pc' := 46) rfl rfl rfl rfl rfl rfl ?_
        refine ir_getR (pc' := 49) rfl rfl rfl (hG_at usk_0) rfl e20 ?_
        refine ir_l (pc' := 50) rfl rfl rfl rfl rfl rfl ?_
        refine ir_ula (pc' := 51) rfl rfl ue_7 (by decide) usk_7 hT17 (by omega) (by omega) (fun z23 z23e z23l z23h => ?_)
        clear z23e
        refine ir_cVI (pc' := 54) rfl rfl rfl rfl rfl (Nat.le_of_ble_eq_true rfl) oo_X10_isFine (hG_at usk_0) (rf_isFineR L ys d s17 hT17 (z23) (by omega) (by omega) ) (fun z24 s25 hr => ?_)
        obtain ⟨hT25, hG25, z24l, z24h⟩ := hr
        have hF25 := ur_trans hF17 hG25 (by decide)
        have e26 : s25.1 582 2 = w2_582_2 := (hG25.1 _ _ usk_0 2 (by decide)).trans e18
        have e27 : s25.1 582 21 = z8 := (hG25.1 _ _ usk_0 21 (by decide)).trans e19
        have e28 : s25.1 582 14 = ((589 : Nat) : Int) := (hG25.1 _ _ usk_0 14 (by decide)).trans e20
        have e29 : s25.1 582 18 = ((593 : Nat) : Int) := (hG25.1 _ _ usk_0 18 (by decide)).trans e21
        have e30 : s25.1 582 15 = ((590 : Nat) : Int) := (hG25.1 _ _ usk_0 15 (by decide)).trans e22
        refine ir_z_ne (pt := 71) (pc' := 57) rfl rfl rfl (fun c31 => ?_) (fun c31 => ?_)
        · refine ir_w [(0, (2, ((582 : Nat) : Int))), (1, (0, q2_l1))] ⟨rfl, rfl, trivial⟩ ?_
          exact J71 (by omega) s25 hT25 hF25 (w2_582_2) (by omega) (by omega) e26 e28 e30 e29 (z8) (by omega) (by omega) e27 (by omega)
        · refine ir_l (pc' := 58) rfl rfl rfl rfl rfl rfl ?_
          refine ir_k (pc' := 59) (v := (0, 3)) rfl rfl rfl (fun _ => rfl) ?_
          refine ir_l (pc' := 60) rfl rfl rfl rfl rfl rfl ?_
          refine ir_ugr (pc' := 63) rfl rfl rfl uf_0_19 usk_0 hT25 (fun b32 b32e b32k => ?_)
          obtain rfl := usg_12 b32k
          refine ir_l (pc' := 64) rfl rfl rfl rfl rfl rfl ?_
          refine ir_getI (pc' := 67) rfl rfl rfl (hG_at usk_0) rfl (by decide) (by decide) e27 (by omega) (by omega) ?_
          refine ir_uia (pc' := 68) rfl rfl ue_12 (by decide) usk_12 hT25 (by omega) (by omega) (fun z33 z33e z33l z33h => ?_)
          clear z33e
          refine ir_cVV (pc' := 71) rfl rfl rfl rfl rfl (Nat.le_of_ble_eq_true rfl) oo_X10_fail (hG_at usk_0) (rf_failR L ys d s25 hT25 (3) (by omega) (by omega) (z33) (by omega) (by omega) ) (fun s35 hr => ?_)
          obtain ⟨hT35, hG35, p35_0, p35_1⟩ := hr
          have hF35 := ur_trans hF25 hG35 (by decide)
          have e36 : s35.1 582 21 = z8 := (hG35.1 _ _ usk_0 21 (by decide)).trans e27
          have e37 : s35.1 582 14 = ((589 : Nat) : Int) := (hG35.1 _ _ usk_0 14 (by decide)).trans e28
          have e38 : s35.1 582 18 = ((593 : Nat) : Int) := (hG35.1 _ _ usk_0 18 (by decide)).trans e29
          have e39 : s35.1 582 15 = ((590 : Nat) : Int) := (hG35.1 _ _ usk_0 15 (by decide)).trans e30
          have e40 : s35.1 582 19 = ((594 : Nat) : Int) := (hG35.1 _ _ usk_0 19 (by decide)).trans b32e
          obtain ⟨z41, z41e, z41l, z41h⟩ := uI_i uf_0_2 usk_0 hT35
          refine ir_w [(0, (2, ((582 : Nat) : Int))), (1, (0, q2_l1))] ⟨rfl, rfl, trivial⟩ ?_
          exact J71 (by omega) s35 hT35 hF35 (z41) (by omega) (by omega) z41e e37 e39 e38 (z8) (by omega) (by omega) e36 (by omega)
  obtain ⟨z42, z42e, z42l, z42h⟩ := uI_i uf_0_2 usk_0 hT0
  refine ir_k (pc' := 1) (v := (0, 0)) rfl rfl rfl (fun _ => rfl) ?_
  refine ir_s (pc' := 2) rfl rfl rfl rfl rfl rfl ?_
  refine ir_w [(0, (2, ((582 : Nat) : Int))), (1, (0, 0))] ⟨rfl, rfl, trivial⟩ ?_
  exact J2 _ (0) (by omega) (by omega) s0 hT0 hF0 (z42) (by omega) (by omega) z42e (by omega) (Int.self_le_toNat _)
theorem rf_exactR (L : Nat) (ys : Nat → Int32) (d : Nat) (s0 : im_S) (hT0 : uI s0) (x1 : Int) (x1l : -2147483648 ≤ x1) (x1h : x1 ≤ 2147483647) (x2 : Int) (x2l : -2147483648 ≤ x2) (x2h : x2 ≤ 2147483647) : icI gG rm_P L ys 1 (d + 2) 34 [(2, ((582 : Nat) : Int)), (0, x1), (0, x2)] s0 (fun z s => uI s ∧ ur [] s0 s ∧ -9223372036854775808 ≤ z ∧ z ≤ 9223372036854775807) := by
  refine ic_startM (M := rm_p_X10_exact) om_X10_exact (Nat.le_of_ble_eq_true rfl) ?_
  refine ir_w [(0, (2, ((582 : Nat) : Int))), (1, (0, x1)), (2, (0, x2))] ⟨rfl, rfl, rfl, trivial⟩ ?_
  have hF0 := ur_refl [] s0
  have J64 : ∀ (q64_s0 : Int) (q64_s0l : -9223372036854775808 ≤ q64_s0) (q64_s0h : q64_s0 ≤ 9223372036854775807) (s_64 : im_S) (hT_64 : uI s_64) (hF_64 : ur [] s0 s_64) (w64_582_44e : s_64.1 582 44 = ((609 : Nat) : Int)) (w64_582_49e : s_64.1 582 49 = ((614 : Nat) : Int)), ir gG rm_P L ys (d + 1) rm_p_X10_exact (64, [], [(1, q64_s0)], s_64) (fun r : im_Re => ∃ z, r.1 = some (1, z) ∧ (uI r.2 ∧ ur [] s0 r.2 ∧ -9223372036854775808 ≤ z ∧ z ≤ 9223372036854775807)) := by
    intro q64_s0 q64_s0l q64_s0h s_64 hT_64 hF_64 w64_582_44e w64_582_49e
    exact ir_lret rfl rfl ⟨_, rfl, hT_64, hF_64, by omega, by omega⟩
  have J17 : ∀ (s_17 : im_S) (hT_17 : uI s_17) (hF_17 : ur [] s0 s_17), ir gG rm_P L ys (d + 1) rm_p_X10_exact (17, [], [], s_17) (fun r : im_Re => ∃ z, r.1 = some (1, z) ∧ (uI r.2 ∧ ur [] s0 r.2 ∧ -9223372036854775808 ≤ z ∧ z ≤ 9223372036854775807)) := by
    intro s_17 hT_17 hF_17
    refine ir_k (pc' := 20) (v := (1, (-9000000000000000000))) rfl rfl rfl (fun _ => rfl) ?_
    exact ir_lret rfl rfl ⟨_, rfl, hT_17, hF_17, by omega, by omega⟩
  refine ir_l (pc' := 1) rfl rfl rfl rfl rfl rfl ?_
  refine ir_l (pc' := 2) rfl rfl rfl rfl rfl rfl ?_
  refine ir_cVI (pc' := 5) rfl rfl rfl rfl rfl (Nat.le_of_ble_eq_true rfl) oo_X10_isRoot (hG_at usk_0) (rf_isRootR L ys d s0 hT0 (x1) (by omega) (by omega) ) (fun z1 s2 hr => ?_)
  obtain ⟨hT2, hG2, z1l, z1h, p2_0⟩ := hr
  have hF2 := ur_trans hF0 hG2 (by decide)
  refine ir_z_eq (pt := 17) (pc' := 8) rfl rfl rfl (fun c3 => ?_) (fun c3 => ?_)
  · refine ir_w [] trivial ?_
    exact J17 s2 hT2 hF2
  · refine ir_l (pc' := 9) rfl rfl rfl rfl rfl rfl ?_
    refine ir_z_lt (pt := 17) (pc' := 12) rfl rfl rfl (fun c4 => ?_) (fun c4 => ?_)
    · refine ir_w [] trivial ?_
      exact J17 s2 hT2 hF2
    · refine ir_l (pc' := 13) rfl rfl rfl rfl rfl rfl ?_
      refine ir_k (pc' := 14) (v := (0, 1)) rfl rfl rfl (fun _ => rfl) ?_
      refine ir_c_le (pt := 21) (pc' := 17) rfl rfl rfl (fun c5 => ?_) (fun c5 => ?_)
      · refine ir_l (pc' := 22) rfl rfl rfl rfl rfl rfl ?_
        refine ir_ugr (pc' := 25) rfl rfl rfl uf_0_49 usk_0 hT2 (fun b6 b6e b6k => ?_)
        obtain rfl := usg_32 b6k
        refine ir_l (pc' := 26) rfl rfl rfl rfl rfl rfl ?_
        refine ir_uia (pc' := 27) rfl rfl ue_32 (by decide) usk_32 hT2 (by omega) (by omega) (fun z7 z7e z7l z7h => ?_)
        clear z7e
        refine ir_s (pc' := 28) rfl rfl rfl rfl rfl rfl ?_
        refine ir_l (pc' := 29) rfl rfl rfl rfl rfl rfl ?_
        refine ir_ugr (pc' := 32) rfl rfl rfl uf_0_44 usk_0 hT2 (fun b8 b8e b8k => ?_)
        obtain rfl := usg_27 b8k
        refine ir_l (pc' := 33) rfl rfl rfl rfl rfl rfl ?_
        refine ir_ula (pc' := 34) rfl rfl ue_27 (by decide) usk_27 hT2 (by omega) (by omega) (fun z9 z9e z9l z9h => ?_)
        clear z9e
        refine ir_k (pc' := 35) (v := (1, 0)) rfl rfl rfl (fun _ => rfl) ?_
        refine ir_lcmp (pc' := 36) rfl rfl (by omega) (by omega) (by omega) (by omega) (fun z10 z10c => ?_)
        refine ir_z_ne (pt := 45) (pc' := 39) rfl rfl rfl (fun c11 => ?_) (fun c11 => ?_)
        · refine ir_l (pc' := 46) rfl rfl rfl rfl rfl rfl ?_
          refine ir_z_ne (pt := 58) (pc' := 49) rfl rfl rfl (fun c12 => ?_) (fun c12 => ?_)
          · refine ir_l (pc' := 59) rfl rfl rfl rfl rfl rfl ?_
            refine ir_getR (pc' := 62) rfl rfl rfl (hG_at usk_0) rfl b8e ?_
            refine ir_l (pc' := 63) rfl rfl rfl rfl rfl rfl ?_
            refine ir_ula (pc' := 64) rfl rfl ue_27 (by decide) usk_27 hT2 (by omega) (by omega) (fun z13 z13e z13l z13h => ?_)
            clear z13e
            refine ir_w [] trivial ?_
            exact J64 (z13) (by omega) (by omega) s2 hT2 hF2 b8e b6e
          · refine ir_l (pc' := 50) rfl rfl rfl rfl rfl rfl ?_
            refine ir_ugr (pc' := 53) rfl rfl rfl uf_0_43 usk_0 hT2 (fun b14 b14e b14k => ?_)
            obtain rfl := usg_26 b14k
            refine ir_l (pc' := 54) rfl rfl rfl rfl rfl rfl ?_
            refine ir_ula (pc' := 55) rfl rfl ue_26 (by decide) usk_26 hT2 (by omega) (by omega) (fun z15 z15e z15l z15h => ?_)
            clear z15e
            refine ir_goto (pc' := 64) rfl rfl ?_
            refine ir_w [] trivial ?_
            exact J64 (z15) (by omega) (by omega) s2 hT2 hF2 b8e b6e
        · refine ir_k (pc' := 42) (v := (1, (-9000000000000000002))) rfl rfl rfl (fun _ => rfl) ?_
          refine ir_goto (pc' := 64) rfl rfl ?_
          refine ir_w [] trivial ?_
          exact J64 ((-9000000000000000002)) (by omega) (by omega) s2 hT2 hF2 b8e b6e
      · refine ir_w [] trivial ?_
        exact J17 s2 hT2 hF2
theorem rf_floorR (L : Nat) (ys : Nat → Int32) (d : Nat) (s0 : im_S) (hT0 : uI s0) (x0 : Int) (x0l : -9223372036854775808 ≤ x0) (x0h : x0 ≤ 9223372036854775807) (x1 : Int) (x1l : 1 ≤ x1) (x1h : x1 ≤ 9223372036854775807) : icI gG rm_P L ys 1 (d + 1) 40 [(1, x0), (1, x1)] s0 (fun z s => uI s ∧ ur [] s0 s ∧ -9223372036854775808 ≤ z ∧ z ≤ 9223372036854775807) := by
  refine ic_startM (M := rm_p_X10_floor) om_X10_floor (Nat.le_of_ble_eq_true rfl) ?_
  refine ir_w [(0, (1, x0)), (2, (1, x1))] ⟨rfl, rfl, trivial⟩ ?_
  have hF0 := ur_refl [] s0
  have J22 : ∀ (q22_s0 : Int) (q22_s0l : -9223372036854775808 ≤ q22_s0) (q22_s0h : q22_s0 ≤ 9223372036854775807) (s_22 : im_S) (hT_22 : uI s_22) (hF_22 : ur [] s0 s_22), ir gG rm_P L ys d rm_p_X10_floor (22, [], [(1, q22_s0)], s_22) (fun r : im_Re => ∃ z, r.1 = some (1, z) ∧ (uI r.2 ∧ ur [] s0 r.2 ∧ -9223372036854775808 ≤ z ∧ z ≤ 9223372036854775807)) := by
    intro q22_s0 q22_s0l q22_s0h s_22 hT_22 hF_22
    exact ir_lret rfl rfl ⟨_, rfl, hT_22, hF_22, by omega, by omega⟩
  refine ir_l (pc' := 1) rfl rfl rfl rfl rfl rfl ?_
  refine ir_l (pc' := 2) rfl rfl rfl rfl rfl rfl ?_
  refine ir_jzA (pc' := 3) rfl rfl rfl rfl (by omega) (fun z1 z1l z1h => ?_)
  refine ir_s2 (pc' := 5) rfl rfl rfl rfl rfl rfl ?_
  refine ir_l (pc' := 6) rfl rfl rfl rfl rfl rfl ?_
  refine ir_l (pc' := 7) rfl rfl rfl rfl rfl rfl ?_
  refine ir_jzA (pc' := 8) rfl rfl rfl rfl (by omega) (fun z2 z2l z2h => ?_)
  refine ir_k (pc' := 9) (v := (1, 0)) rfl rfl rfl (fun _ => rfl) ?_
  refine ir_lcmp (pc' := 10) rfl rfl (by omega) (by omega) (by omega) (by omega) (fun z3 z3c => ?_)
  refine ir_z_ge (pt := 20) (pc' := 13) rfl rfl rfl (fun c4 => ?_) (fun c4 => ?_)
  · refine ir_l (pc' := 22) rfl rfl rfl rfl rfl rfl ?_
    refine ir_w [] trivial ?_
    exact J22 (z1) (by omega) (by omega) s0 hT0 hF0
  · refine ir_l (pc' := 15) rfl rfl rfl rfl rfl rfl ?_
    refine ir_k (pc' := 16) (v := (1, 1)) rfl rfl rfl (fun _ => rfl) ?_
    refine ir_jjA (pc' := 17) rfl rfl rfl rfl (fun z5 z5l z5h => ?_)
    refine ir_goto (pc' := 22) rfl rfl ?_
    refine ir_w [] trivial ?_
    exact J22 (z5) (by omega) (by omega) s0 hT0 hF0
theorem rf_isSignR (L : Nat) (ys : Nat → Int32) (d : Nat) (s0 : im_S) (hT0 : uI s0) (x0 : Int) (x0l : -2147483648 ≤ x0) (x0h : x0 ≤ 2147483647) : icI gG rm_P L ys 0 (d + 1) 56 [(0, x0)] s0 (fun z s => uI s ∧ ur [] s0 s ∧ 0 ≤ z ∧ z ≤ 1 ∧ ((z = 1 ∧ 32 ≤ x0 ∧ x0 ≤ 126) ∨ (z = 0 ∧ (x0 < 32 ∨ 126 < x0)))) := by
  refine ic_startM (M := rm_p_X10_isSign) om_X10_isSign (Nat.le_of_ble_eq_true rfl) ?_
  refine ir_w [(0, (0, x0))] ⟨rfl, trivial⟩ ?_
  have hF0 := ur_refl [] s0
  have J17 : ∀ (q17_s0 : Int) (q17_s0l : 0 ≤ q17_s0) (q17_s0h : q17_s0 ≤ 1) (s_17 : im_S) (hT_17 : uI s_17) (hF_17 : ur [] s0 s_17) (i17_0 : ((q17_s0 = 1 ∧ 32 ≤ x0 ∧ x0 ≤ 126) ∨ (q17_s0 = 0 ∧ (x0 < 32 ∨ 126 < x0)))), ir gG rm_P L ys d rm_p_X10_isSign (17, [], [(0, q17_s0)], s_17) (fun r : im_Re => ∃ z, r.1 = some (0, z) ∧ (uI r.2 ∧ ur [] s0 r.2 ∧ 0 ≤ z ∧ z ≤ 1 ∧ ((z = 1 ∧ 32 ≤ x0 ∧ x0 ≤ 126) ∨ (z = 0 ∧ (x0 < 32 ∨ 126 < x0))))) := by
    intro q17_s0 q17_s0l q17_s0h s_17 hT_17 hF_17 i17_0
    exact ir_zret rfl rfl (by omega) ⟨_, rfl, hT_17, hF_17, by omega, by omega, (by first | omega | (dsimp only; omega))⟩
  have J16 : ∀ (s_16 : im_S) (hT_16 : uI s_16) (hF_16 : ur [] s0 s_16) (i16_0 : (x0 < 32 ∨ 126 < x0)), ir gG rm_P L ys d rm_p_X10_isSign (16, [], [], s_16) (fun r : im_Re => ∃ z, r.1 = some (0, z) ∧ (uI r.2 ∧ ur [] s0 r.2 ∧ 0 ≤ z ∧ z ≤ 1 ∧ ((z = 1 ∧ 32 ≤ x0 ∧ x0 ≤ 126) ∨ (z = 0 ∧ (x0 < 32 ∨ 126 < x0))))) := by
    intro s_16 hT_16 hF_16 i16_0
    refine ir_k (pc' := 17) (v := (0, 0)) rfl rfl rfl (fun _ => rfl) ?_
    refine ir_w [] trivial ?_
    exact J17 (0) (by omega) (by omega) s_16 hT_16 hF_16 (by omega)
  refine ir_l (pc' := 1) rfl rfl rfl rfl rfl rfl ?_
  refine ir_k (pc' := 3) (v := (0, 32)) rfl rfl rfl (fun _ => rfl) ?_
  refine ir_c_lt (pt := 16) (pc' := 6) rfl rfl rfl (fun c1 => ?_) (fun c1 => ?_)
  · refine ir_w [] trivial ?_
    exact J16 s0 hT0 hF0 (by omega)
  · refine ir_l (pc' := 7) rfl rfl rfl rfl rfl rfl ?_
    refine ir_k (pc' := 9) (v := (0, 126)) rfl rfl rfl (fun _ => rfl) ?_
    refine ir_c_gt (pt := 16) (pc' := 12) rfl rfl rfl (fun c2 => ?_) (fun c2 => ?_)
    · refine ir_w [] trivial ?_
      exact J16 s0 hT0 hF0 (by omega)
    · refine ir_k (pc' := 13) (v := (0, 1)) rfl rfl rfl (fun _ => rfl) ?_
      refine ir_goto (pc' := 17) rfl rfl ?_
      refine ir_w [] trivial ?_
      exact J17 (1) (by omega) (by omega) s0 hT0 hF0 (by omega)
theorem rf_isCellR (L : Nat) (ys : Nat → Int32) (d : Nat) (s0 : im_S) (hT0 : uI s0) (x1 : Int) (x1l : -2147483648 ≤ x1) (x1h : x1 ≤ 2147483647) : icI gG rm_P L ys 0 (d + 2) 51 [(2, ((582 : Nat) : Int)), (0, x1)] s0 (fun z s => uI s ∧ ur [] s0 s ∧ 0 ≤ z ∧ z ≤ 1 ∧ (z = 0 ∨ (0 ≤ x1 ∧ x1 ≤ 180))) := by
  refine ic_startM (M := rm_p_X10_isCell) om_X10_isCell (Nat.le_of_ble_eq_true rfl) ?_
  refine ir_w [(0, (2, ((582 : Nat) : Int))), (1, (0, x1))] ⟨rfl, rfl, trivial⟩ ?_
  have hF0 := ur_refl [] s0
  have J24 : ∀ (q24_s0 : Int) (q24_s0l : 0 ≤ q24_s0) (q24_s0h : q24_s0 ≤ 1) (s_24 : im_S) (hT_24 : uI s_24) (hF_24 : ur [] s0 s_24) (w24_582_5 : Int) (w24_582_5l : 0 ≤ w24_582_5) (w24_582_5h : w24_582_5 ≤ 1) (w24_582_5e : s_24.1 582 5 = w24_582_5) (i24_0 : (q24_s0 = 0 ∨ (0 ≤ x1 ∧ x1 ≤ 180))), ir gG rm_P L ys (d + 1) rm_p_X10_isCell (24, [], [(0, q24_s0)], s_24) (fun r : im_Re => ∃ z, r.1 = some (0, z) ∧ (uI r.2 ∧ ur [] s0 r.2 ∧ 0 ≤ z ∧ z ≤ 1 ∧ (z = 0 ∨ (0 ≤ x1 ∧ x1 ≤ 180)))) := by
    intro q24_s0 q24_s0l q24_s0h s_24 hT_24 hF_24 w24_582_5 w24_582_5l w24_582_5h w24_582_5e i24_0
    exact ir_zret rfl rfl (by omega) ⟨_, rfl, hT_24, hF_24, by omega, by omega, (by first | omega | (dsimp only; omega))⟩
  have J23 : ∀ (s_23 : im_S) (hT_23 : uI s_23) (hF_23 : ur [] s0 s_23) (w23_582_5 : Int) (w23_582_5l : 0 ≤ w23_582_5) (w23_582_5h : w23_582_5 ≤ 1) (w23_582_5e : s_23.1 582 5 = w23_582_5), ir gG rm_P L ys (d + 1) rm_p_X10_isCell (23, [], [], s_23) (fun r : im_Re => ∃ z, r.1 = some (0, z) ∧ (uI r.2 ∧ ur [] s0 r.2 ∧ 0 ≤ z ∧ z ≤ 1 ∧ (z = 0 ∨ (0 ≤ x1 ∧ x1 ≤ 180)))) := by
    intro s_23 hT_23 hF_23 w23_582_5 w23_582_5l w23_582_5h w23_582_5e
    refine ir_k (pc' := 24) (v := (0, 0)) rfl rfl rfl (fun _ => rfl) ?_
    refine ir_w [] trivial ?_
    exact J24 (0) (by omega) (by omega) s_23 hT_23 hF_23 (w23_582_5) (by omega) (by omega) w23_582_5e (by omega)
  refine ir_l (pc' := 1) rfl rfl rfl rfl rfl rfl ?_
  refine ir_ugi (pc' := 4) rfl rfl rfl uf_0_5 usk_0 hT0 (fun z1 z1e z1l z1h => ?_)
  refine ir_z_eq (pt := 23) (pc' := 7) rfl rfl rfl (fun c2 => ?_) (fun c2 => ?_)
  · refine ir_w [] trivial ?_
    exact J23 s0 hT0 hF0 (z1) (by omega) (by omega) z1e
  · refine ir_l (pc' := 8) rfl rfl rfl rfl rfl rfl ?_
    refine ir_z_lt (pt := 23) (pc' := 11) rfl rfl rfl (fun c3 => ?_) (fun c3 => ?_)
    · refine ir_w [] trivial ?_
      exact J23 s0 hT0 hF0 (z1) (by omega) (by omega) z1e
    · refine ir_l (pc' := 12) rfl rfl rfl rfl rfl rfl ?_
      refine ir_l (pc' := 13) rfl rfl rfl rfl rfl rfl ?_
      refine ir_cVI (pc' := 16) rfl rfl rfl rfl rfl (Nat.le_of_ble_eq_true rfl) oo_X10_cells (hG_at usk_0) (rf_cellsR L ys d s0 hT0  ) (fun z4 s5 hr => ?_)
      obtain ⟨hT5, hG5, z4l, z4h⟩ := hr
      have hF5 := ur_trans hF0 hG5 (by decide)
      have e6 : s5.1 582 5 = z1 := (hG5.1 _ _ usk_0 5 (by decide)).trans z1e
      refine ir_c_ge (pt := 23) (pc' := 19) rfl rfl rfl (fun c7 => ?_) (fun c7 => ?_)
      · refine ir_w [] trivial ?_
        exact J23 s5 hT5 hF5 (z1) (by omega) (by omega) e6
      · refine ir_k (pc' := 20) (v := (0, 1)) rfl rfl rfl (fun _ => rfl) ?_
        refine ir_goto (pc' := 24) rfl rfl ?_
        refine ir_w [] trivial ?_
        exact J24 (1) (by omega) (by omega) s5 hT5 hF5 (z1) (by omega) (by omega) e6 (by omega)
theorem rf_holdsR (L : Nat) (ys : Nat → Int32) (d : Nat) (s0 : im_S) (hT0 : uI s0) (x1 : Int) (x1l : -2147483648 ≤ x1) (x1h : x1 ≤ 2147483647) : icI gG rm_P L ys 0 (d + 3) 47 [(2, ((582 : Nat) : Int)), (0, x1)] s0 (fun z s => uI s ∧ ur [] s0 s ∧ -1 ≤ z ∧ z ≤ 1) := by
  refine ic_startM (M := rm_p_X10_holds) om_X10_holds (Nat.le_of_ble_eq_true rfl) ?_
  refine ir_w [(0, (2, ((582 : Nat) : Int))), (1, (0, x1))] ⟨rfl, rfl, trivial⟩ ?_
  have hF0 := ur_refl [] s0
  have J26 : ∀ (q26_s0 : Int) (q26_s0l : -1 ≤ q26_s0) (q26_s0h : q26_s0 ≤ 1) (s_26 : im_S) (hT_26 : uI s_26) (hF_26 : ur [] s0 s_26), ir gG rm_P L ys (d + 2) rm_p_X10_holds (26, [], [(0, q26_s0)], s_26) (fun r : im_Re => ∃ z, r.1 = some (0, z) ∧ (uI r.2 ∧ ur [] s0 r.2 ∧ -1 ≤ z ∧ z ≤ 1)) := by
    intro q26_s0 q26_s0l q26_s0h s_26 hT_26 hF_26
    exact ir_iret rfl rfl ⟨_, rfl, hT_26, hF_26, by omega, by omega⟩
  refine ir_l (pc' := 1) rfl rfl rfl rfl rfl rfl ?_
  refine ir_l (pc' := 2) rfl rfl rfl rfl rfl rfl ?_
  refine ir_cVI (pc' := 5) rfl rfl rfl rfl rfl (Nat.le_of_ble_eq_true rfl) oo_X10_isCell (hG_at usk_0) (rf_isCellR L ys d s0 hT0 (x1) (by omega) (by omega) ) (fun z1 s2 hr => ?_)
  obtain ⟨hT2, hG2, z1l, z1h, p2_0⟩ := hr
  have hF2 := ur_trans hF0 hG2 (by decide)
  refine ir_z_eq (pt := 25) (pc' := 8) rfl rfl rfl (fun c3 => ?_) (fun c3 => ?_)
  · refine ir_k (pc' := 26) (v := (0, (-1))) rfl rfl rfl (fun _ => rfl) ?_
    refine ir_w [] trivial ?_
    exact J26 ((-1)) (by omega) (by omega) s2 hT2 hF2
  · refine ir_l (pc' := 9) rfl rfl rfl rfl rfl rfl ?_
    refine ir_ugr (pc' := 12) rfl rfl rfl uf_0_54 usk_0 hT2 (fun b4 b4e b4k => ?_)
    obtain rfl := usg_36 b4k
    refine ir_l (pc' := 13) rfl rfl rfl rfl rfl rfl ?_
    refine ir_uba (pc' := 14) rfl rfl ue_36 (by decide) (by decide) usk_36 hT2 (by omega) (by omega) (fun z5 z5e z5l z5h => ?_)
    clear z5e
    refine ir_z_eq (pt := 21) (pc' := 17) rfl rfl rfl (fun c6 => ?_) (fun c6 => ?_)
    · refine ir_k (pc' := 22) (v := (0, 0)) rfl rfl rfl (fun _ => rfl) ?_
      refine ir_goto (pc' := 26) rfl rfl ?_
      refine ir_w [] trivial ?_
      exact J26 (0) (by omega) (by omega) s2 hT2 hF2
    · refine ir_k (pc' := 18) (v := (0, 1)) rfl rfl rfl (fun _ => rfl) ?_
      refine ir_goto (pc' := 26) rfl rfl ?_
      refine ir_w [] trivial ?_
      exact J26 (1) (by omega) (by omega) s2 hT2 hF2
theorem rf_judgeR (L : Nat) (ys : Nat → Int32) (d : Nat) (s0 : im_S) (hT0 : uI s0) (x1 : Int) (x1l : -2147483648 ≤ x1) (x1h : x1 ≤ 2147483647) : icI gG rm_P L ys 0 (d + 3) 61 [(2, ((582 : Nat) : Int)), (0, x1)] s0 (fun z s => uI s ∧ ur [] s0 s ∧ -2147483648 ≤ z ∧ z ≤ 2147483647) := by
  refine ic_startM (M := rm_p_X10_judge) om_X10_judge (Nat.le_of_ble_eq_true rfl) ?_
  refine ir_w [(0, (2, ((582 : Nat) : Int))), (1, (0, x1))] ⟨rfl, rfl, trivial⟩ ?_
  have hF0 := ur_refl [] s0
  have J251 : ∀ (q251_s0 : Int) (q251_s0l : 0 ≤ q251_s0) (q251_s0h : q251_s0 ≤ 1) (s_251 : im_S) (hT_251 : uI s_251) (hF_251 : ur [] s0 s_251) (w251_582_5 : Int) (w251_582_5l : 1 ≤ w251_582_5) (w251_582_5h : w251_582_5 ≤ 1) (w251_582_5e : s_251.1 582 5 = w251_582_5) (w251_582_54e : s_251.1 582 54 = ((618 : Nat) : Int)), ir gG rm_P L ys (d + 2) rm_p_X10_judge (251, [], [(0, q251_s0)], s_251) (fun r : im_Re => ∃ z, r.1 = some (0, z) ∧ (uI r.2 ∧ ur [] s0 r.2 ∧ -2147483648 ≤ z ∧ z ≤ 2147483647)) := by
    intro q251_s0 q251_s0l q251_s0h s_251 hT_251 hF_251 w251_582_5 w251_582_5l w251_582_5h w251_582_5e w251_582_54e
    exact ir_iret rfl rfl ⟨_, rfl, hT_251, hF_251, by omega, by omega⟩
  have J231 : ∀ (q231_s0 : Int) (q231_s0l : 0 ≤ q231_s0) (q231_s0h : q231_s0 ≤ 1) (s_231 : im_S) (hT_231 : uI s_231) (hF_231 : ur [] s0 s_231) (w231_582_5 : Int) (w231_582_5l : 1 ≤ w231_582_5) (w231_582_5h : w231_582_5 ≤ 1) (w231_582_5e : s_231.1 582 5 = w231_582_5) (w231_582_54e : s_231.1 582 54 = ((618 : Nat) : Int)), ir gG rm_P L ys (d + 2) rm_p_X10_judge (231, [], [(0, q231_s0)], s_231) (fun r : im_Re => ∃ z, r.1 = some (0, z) ∧ (uI r.2 ∧ ur [] s0 r.2 ∧ -2147483648 ≤ z ∧ z ≤ 2147483647)) := by
    intro q231_s0 q231_s0l q231_s0h s_231 hT_231 hF_231 w231_582_5 w231_582_5l w231_582_5h w231_582_5e w231_582_54e
    exact ir_iret rfl rfl ⟨_, rfl, hT_231, hF_231, by omega, by omega⟩
  have J216 : ∀ (q216_s0 : Int) (q216_s0l : 0 ≤ q216_s0) (q216_s0h : q216_s0 ≤ 1) (s_216 : im_S) (hT_216 : uI s_216) (hF_216 : ur [] s0 s_216) (w216_582_5 : Int) (w216_582_5l : 1 ≤ w216_582_5) (w216_582_5h : w216_582_5 ≤ 1) (w216_582_5e : s_216.1 582 5 = w216_582_5), ir gG rm_P L ys (d + 2) rm_p_X10_judge (216, [], [(0, q216_s0)], s_216) (fun r : im_Re => ∃ z, r.1 = some (0, z) ∧ (uI r.2 ∧ ur [] s0 r.2 ∧ -2147483648 ≤ z ∧ z ≤ 2147483647)) := by
    intro q216_s0 q216_s0l q216_s0h s_216 hT_216 hF_216 w216_582_5 w216_582_5l w216_582_5h w216_582_5e
    exact ir_iret rfl rfl ⟨_, rfl, hT_216, hF_216, by omega, by omega⟩
  have J215 : ∀ (s_215 : im_S) (hT_215 : uI s_215) (hF_215 : ur [] s0 s_215) (w215_582_5 : Int) (w215_582_5l : 1 ≤ w215_582_5) (w215_582_5h : w215_582_5 ≤ 1) (w215_582_5e : s_215.1 582 5 = w215_582_5), ir gG rm_P L ys (d + 2) rm_p_X10_judge (215, [], [], s_215) (fun r : im_Re => ∃ z, r.1 = some (0, z) ∧ (uI r.2 ∧ ur [] s0 r.2 ∧ -2147483648 ≤ z ∧ z ≤ 2147483647)) := by
    intro s_215 hT_215 hF_215 w215_582_5 w215_582_5l w215_582_5h w215_582_5e
    refine ir_k (pc' := 216) (v := (0, 0)) rfl rfl rfl (fun _ => rfl) ?_
    refine ir_w [] trivial ?_
    exact J216 (0) (by omega) (by omega) s_215 hT_215 hF_215 (w215_582_5) (by omega) (by omega) w215_582_5e
  have J198 : ∀ (q198_s0 : Int) (q198_s0l : 0 ≤ q198_s0) (q198_s0h : q198_s0 ≤ 1) (s_198 : im_S) (hT_198 : uI s_198) (hF_198 : ur [] s0 s_198) (w198_582_5 : Int) (w198_582_5l : 1 ≤ w198_582_5) (w198_582_5h : w198_582_5 ≤ 1) (w198_582_5e : s_198.1 582 5 = w198_582_5), ir gG rm_P L ys (d + 2) rm_p_X10_judge (198, [], [(0, q198_s0)], s_198) (fun r : im_Re => ∃ z, r.1 = some (0, z) ∧ (uI r.2 ∧ ur [] s0 r.2 ∧ -2147483648 ≤ z ∧ z ≤ 2147483647)) := by
    intro q198_s0 q198_s0l q198_s0h s_198 hT_198 hF_198 w198_582_5 w198_582_5l w198_582_5h w198_582_5e
    exact ir_iret rfl rfl ⟨_, rfl, hT_198, hF_198, by omega, by omega⟩
  have J197 : ∀ (s_197 : im_S) (hT_197 : uI s_197) (hF_197 : ur [] s0 s_197) (w197_582_5 : Int) (w197_582_5l : 1 ≤ w197_582_5) (w197_582_5h : w197_582_5 ≤ 1) (w197_582_5e : s_197.1 582 5 = w197_582_5), ir gG rm_P L ys (d + 2) rm_p_X10_judge (197, [], [], s_197) (fun r : im_Re => ∃ z, r.1 = some (0, z) ∧ (uI r.2 ∧ ur [] s0 r.2 ∧ -2147483648 ≤ z ∧ z ≤ 2147483647)) := by
    intro s_197 hT_197 hF_197 w197_582_5 w197_582_5l w197_582_5h w197_582_5e
    refine ir_k (pc' := 198) (v := (0, 0)) rfl rfl rfl (fun _ => rfl) ?_
    refine ir_w [] trivial ?_
    exact J198 (0) (by omega) (by omega) s_197 hT_197 hF_197 (w197_582_5) (by omega) (by omega) w197_582_5e
  have J173 : ∀ (q173_s0 : Int) (q173_s0l : 0 ≤ q173_s0) (q173_s0h : q173_s0 ≤ 1) (s_173 : im_S) (hT_173 : uI s_173) (hF_173 : ur [] s0 s_173) (w173_582_5 : Int) (w173_582_5l : 1 ≤ w173_582_5) (w173_582_5h : w173_582_5 ≤ 1) (w173_582_5e : s_173.1 582 5 = w173_582_5), ir gG rm_P L ys (d + 2) rm_p_X10_judge (173, [], [(0, q173_s0)], s_173) (fun r : im_Re => ∃ z, r.1 = some (0, z) ∧ (uI r.2 ∧ ur [] s0 r.2 ∧ -2147483648 ≤ z ∧ z ≤ 2147483647)) := by
    intro q173_s0 q173_s0l q173_s0h s_173 hT_173 hF_173 w173_582_5 w173_582_5l w173_582_5h w173_582_5e
    exact ir_iret rfl rfl ⟨_, rfl, hT_173, hF_173, by omega, by omega⟩
  have J158 : ∀ (q158_s0 : Int) (q158_s0l : 0 ≤ q158_s0) (q158_s0h : q158_s0 ≤ 1) (s_158 : im_S) (hT_158 : uI s_158) (hF_158 : ur [] s0 s_158) (w158_582_5 : Int) (w158_582_5l : 1 ≤ w158_582_5) (w158_582_5h : w158_582_5 ≤ 1) (w158_582_5e : s_158.1 582 5 = w158_582_5), ir gG rm_P L ys (d + 2) rm_p_X10_judge (158, [], [(0, q158_s0)], s_158) (fun r : im_Re => ∃ z, r.1 = some (0, z) ∧ (uI r.2 ∧ ur [] s0 r.2 ∧ -2147483648 ≤ z ∧ z ≤ 2147483647)) := by
    intro q158_s0 q158_s0l q158_s0h s_158 hT_158 hF_158 w158_582_5 w158_582_5l w158_582_5h w158_582_5e
    exact ir_iret rfl rfl ⟨_, rfl, hT_158, hF_158, by omega, by omega⟩
  have J31 : ∀ n : Nat, ∀ (q31_l2 : Int) (q31_l2l : -2 ≤ q31_l2) (q31_l2h : q31_l2 ≤ 195) (q31_l3 : Int) (q31_l3l : -2 ≤ q31_l3) (q31_l3h : q31_l3 ≤ 195) (q31_l4 : Int) (q31_l4l : -2147483648 ≤ q31_l4) (q31_l4h : q31_l4 ≤ 2147483647) (q31_l5 : Int) (q31_l5l : 0 ≤ q31_l5) (q31_l5h : q31_l5 ≤ 195) (f31_1l : 0 ≤ x1) (f31_1h : x1 ≤ 8) (s_31 : im_S) (hT_31 : uI s_31) (hF_31 : ur [] s0 s_31) (w31_582_5 : Int) (w31_582_5l : 1 ≤ w31_582_5) (w31_582_5h : w31_582_5 ≤ 1) (w31_582_5e : s_31.1 582 5 = w31_582_5), (195 + 1 - q31_l5) ≤ (n : Int) → ir gG rm_P L ys (d + 2) rm_p_X10_judge (31, [(0, (2, ((582 : Nat) : Int))), (1, (0, x1)), (2, (0, q31_l2)), (3, (0, q31_l3)), (4, (0, q31_l4)), (5, (0, q31_l5))], [], s_31) (fun r : im_Re => ∃ z, r.1 = some (0, z) ∧ (uI r.2 ∧ ur [] s0 r.2 ∧ -2147483648 ≤ z ∧ z ≤ 2147483647)) := by
    intro n
    induction n with
    | zero => intro q31_l2 q31_l2l q31_l2h q31_l3 q31_l3l q31_l3h q31_l4 q31_l4l q31_l4h q31_l5 q31_l5l q31_l5h f31_1l f31_1h s_31 hT_31 hF_31 w31_582_5 w31_582_5l w31_582_5h w31_582_5e hr; exfalso; omega
    | succ n ih31 =>
      intro q31_l2 q31_l2l q31_l2h q31_l3 q31_l3l q31_l3h q31_l4 q31_l4l q31_l4h q31_l5 q31_l5l q31_l5h f31_1l f31_1h s_31 hT_31 hF_31 w31_582_5 w31_582_5l w31_582_5h w31_582_5e hr
      have J90 : ∀ (q90_l2 : Int) (q90_l2l : -2 ≤ q90_l2) (q90_l2h : q90_l2 ≤ 195) (q90_l3 : Int) (q90_l3l : -2 ≤ q90_l3) (q90_l3h : q90_l3 ≤ 195) (q90_l4 : Int) (q90_l4l : -2147483648 ≤ q90_l4) (q90_l4h : q90_l4 ≤ 2147483647) (f90_5h : q31_l5 ≤ 180) (s_90 : im_S) (hT_90 : uI s_90) (hF_90 : ur [] s0 s_90) (w90_582_5 : Int) (w90_582_5l : 1 ≤ w90_582_5) (w90_582_5h : w90_582_5 ≤ 1) (w90_582_5e : s_90.1 582 5 = w90_582_5) (w90_582_54e : s_90.1 582 54 = ((618 : Nat) : Int)), ir gG rm_P L ys (d + 2) rm_p_X10_judge (90, [(0, (2, ((582 : Nat) : Int))), (1, (0, x1)), (2, (0, q90_l2)), (3, (0, q90_l3)), (4, (0, q90_l4)), (5, (0, q31_l5))], [], s_90) (fun r : im_Re => ∃ z, r.1 = some (0, z) ∧ (uI r.2 ∧ ur [] s0 r.2 ∧ -2147483648 ≤ z ∧ z ≤ 2147483647)) := by
        intro q90_l2 q90_l2l q90_l2h q90_l3 q90_l3l q90_l3h q90_l4 q90_l4l q90_l4h f90_5h s_90 hT_90 hF_90 w90_582_5 w90_582_5l w90_582_5h w90_582_5e w90_582_54e
        refine ir_inc (pc' := 93) rfl rfl rfl rfl rfl (by omega) (by omega) ?_
        refine ir_goto (pc' := 31) rfl rfl ?_
        refine ir_w [(0, (2, ((582 : Nat) : Int))), (1, (0, x1)), (2, (0, q90_l2)), (3, (0, q90_l3)), (4, (0, q90_l4)), (5, (0, (q31_l5 + 1)))] ⟨rfl, rfl, rfl, rfl, rfl, rfl, trivial⟩ ?_
        exact ih31 (q90_l2) (by omega) (by omega) (q90_l3) (by omega) (by omega) (q90_l4) (by omega) (by omega) ((q31_l5 + 1)) (by omega) (by omega) (by omega) (by omega) s_90 hT_90 hF_90 (w90_582_5) (by omega) (by omega) w90_582_5e (by omega)
      have J84 : ∀ (q84_l2 : Int) (q84_l2l : -1 ≤ q84_l2) (q84_l2h : q84_l2 ≤ 195) (q84_s0 : Int) (q84_s0l : -2147483648 ≤ q84_s0) (q84_s0h : q84_s0 ≤ 2147483647) (q84_s1 : Int) (q84_s1l : 0 ≤ q84_s1) (q84_s1h : q84_s1 ≤ 1) (f84_5h : q31_l5 ≤ 180) (s_84 : im_S) (hT_84 : uI s_84) (hF_84 : ur [] s0 s_84) (w84_582_5 : Int) (w84_582_5l : 1 ≤ w84_582_5) (w84_582_5h : w84_582_5 ≤ 1) (w84_582_5e : s_84.1 582 5 = w84_582_5) (w84_582_54e : s_84.1 582 54 = ((618 : Nat) : Int)), ir gG rm_P L ys (d + 2) rm_p_X10_judge (84, [(0, (2, ((582 : Nat) : Int))), (1, (0, x1)), (2, (0, q84_l2)), (5, (0, q31_l5))], [(0, q84_s1), (0, q84_s0)], s_84) (fun r : im_Re => ∃ z, r.1 = some (0, z) ∧ (uI r.2 ∧ ur [] s0 r.2 ∧ -2147483648 ≤ z ∧ z ≤ 2147483647)) := by
        intro q84_l2 q84_l2l q84_l2h q84_s0 q84_s0l q84_s0h q84_s1 q84_s1l q84_s1h f84_5h s_84 hT_84 hF_84 w84_582_5 w84_582_5l w84_582_5h w84_582_5e w84_582_54e
        refine ir_iiA (pc' := 85) rfl rfl rfl rfl (fun z1 z1l z1h => ?_)
        refine ir_s (pc' := 87) rfl rfl rfl rfl rfl rfl ?_
        refine ir_l (pc' := 89) rfl rfl rfl rfl rfl rfl ?_
        refine ir_s (pc' := 90) rfl rfl rfl rfl rfl rfl ?_
        refine ir_w [(0, (2, ((582 : Nat) : Int))), (1, (0, x1)), (2, (0, q84_l2)), (3, (0, q31_l5)), (4, (0, z1)), (5, (0, q31_l5))] ⟨rfl, rfl, rfl, rfl, rfl, rfl, trivial⟩ ?_
        exact J90 (q84_l2) (by omega) (by omega) (q31_l5) (by omega) (by omega) (z1) (by omega) (by omega) (by omega) s_84 hT_84 hF_84 (w84_582_5) (by omega) (by omega) w84_582_5e w84_582_54e
      have J79 : ∀ (q79_l2 : Int) (q79_l2l : -1 ≤ q79_l2) (q79_l2h : q79_l2 ≤ 195) (q79_s0 : Int) (q79_s0l : -2147483648 ≤ q79_s0) (q79_s0h : q79_s0 ≤ 2147483647) (f79_5h : q31_l5 ≤ 180) (s_79 : im_S) (hT_79 : uI s_79) (hF_79 : ur [] s0 s_79) (w79_582_5 : Int) (w79_582_5l : 1 ≤ w79_582_5) (w79_582_5h : w79_582_5 ≤ 1) (w79_582_5e : s_79.1 582 5 = w79_582_5) (w79_582_54e : s_79.1 582 54 = ((618 : Nat) : Int)), ir gG rm_P L ys (d + 2) rm_p_X10_judge (79, [(0, (2, ((582 : Nat) : Int))), (1, (0, x1)), (2, (0, q79_l2)), (5, (0, q31_l5))], [(0, q79_s0)], s_79) (fun r : im_Re => ∃ z, r.1 = some (0, z) ∧ (uI r.2 ∧ ur [] s0 r.2 ∧ -2147483648 ≤ z ∧ z ≤ 2147483647)) := by
        intro q79_l2 q79_l2l q79_l2h q79_s0 q79_s0l q79_s0h f79_5h s_79 hT_79 hF_79 w79_582_5 w79_582_5l w79_582_5h w79_582_5e w79_582_54e
        refine ir_k (pc' := 80) (v := (0, 1)) rfl rfl rfl (fun _ => rfl) ?_
        refine ir_goto (pc' := 84) rfl rfl ?_
        refine ir_w [(0, (2, ((582 : Nat) : Int))), (1, (0, x1)), (2, (0, q79_l2)), (5, (0, q31_l5))] ⟨rfl, rfl, rfl, rfl, trivial⟩ ?_
        exact J84 (q79_l2) (by omega) (by omega) (q79_s0) (by omega) (by omega) (1) (by omega) (by omega) (by omega) s_79 hT_79 hF_79 (w79_582_5) (by omega) (by omega) w79_582_5e w79_582_54e
      have J62 : ∀ (q62_s0 : Int) (q62_s0l : -1 ≤ q62_s0) (q62_s0h : q62_s0 ≤ 195) (f62_5h : q31_l5 ≤ 180) (s_62 : im_S) (hT_62 : uI s_62) (hF_62 : ur [] s0 s_62) (w62_582_5 : Int) (w62_582_5l : 1 ≤ w62_582_5) (w62_582_5h : w62_582_5 ≤ 1) (w62_582_5e : s_62.1 582 5 = w62_582_5) (w62_582_54e : s_62.1 582 54 = ((618 : Nat) : Int)), ir gG rm_P L ys (d + 2) rm_p_X10_judge (62, [(0, (2, ((582 : Nat) : Int))), (1, (0, x1)), (3, (0, q31_l3)), (4, (0, q31_l4)), (5, (0, q31_l5))], [(0, q62_s0)], s_62) (fun r : im_Re => ∃ z, r.1 = some (0, z) ∧ (uI r.2 ∧ ur [] s0 r.2 ∧ -2147483648 ≤ z ∧ z ≤ 2147483647)) := by
        intro q62_s0 q62_s0l q62_s0h f62_5h s_62 hT_62 hF_62 w62_582_5 w62_582_5l w62_582_5h w62_582_5e w62_582_54e
        refine ir_s (pc' := 63) rfl rfl rfl rfl rfl rfl ?_
        refine ir_l (pc' := 65) rfl rfl rfl rfl rfl rfl ?_
        refine ir_l (pc' := 66) rfl rfl rfl rfl rfl rfl ?_
        refine ir_l (pc' := 68) rfl rfl rfl rfl rfl rfl ?_
        refine ir_k (pc' := 69) (v := (0, 1)) rfl rfl rfl (fun _ => rfl) ?_
        refine ir_sub (pc' := 70) rfl rfl (by omega) (by omega) ?_
        refine ir_c_ne (pt := 79) (pc' := 73) rfl rfl rfl (fun c2 => ?_) (fun c2 => ?_)
        · refine ir_w [(0, (2, ((582 : Nat) : Int))), (1, (0, x1)), (2, (0, q62_s0)), (5, (0, q31_l5))] ⟨rfl, rfl, rfl, rfl, trivial⟩ ?_
          exact J79 (q62_s0) (by omega) (by omega) (q31_l4) (by omega) (by omega) (by omega) s_62 hT_62 hF_62 (w62_582_5) (by omega) (by omega) w62_582_5e w62_582_54e
        · refine ir_l (pc' := 74) rfl rfl rfl rfl rfl rfl ?_
          refine ir_l (pc' := 76) rfl rfl rfl rfl rfl rfl ?_
          refine ir_c_ne (pt := 83) (pc' := 79) rfl rfl rfl (fun c3 => ?_) (fun c3 => ?_)
          · refine ir_k (pc' := 84) (v := (0, 0)) rfl rfl rfl (fun _ => rfl) ?_
            refine ir_w [(0, (2, ((582 : Nat) : Int))), (1, (0, x1)), (2, (0, q62_s0)), (5, (0, q31_l5))] ⟨rfl, rfl, rfl, rfl, trivial⟩ ?_
            exact J84 (q62_s0) (by omega) (by omega) (q31_l4) (by omega) (by omega) (0) (by omega) (by omega) (by omega) s_62 hT_62 hF_62 (w62_582_5) (by omega) (by omega) w62_582_5e w62_582_54e
          · refine ir_w [(0, (2, ((582 : Nat) : Int))), (1, (0, x1)), (2, (0, q62_s0)), (5, (0, q31_l5))] ⟨rfl, rfl, rfl, rfl, trivial⟩ ?_
            exact J79 (q62_s0) (by omega) (by omega) (q31_l4) (by omega) (by omega) (by omega) s_62 hT_62 hF_62 (w62_582_5) (by omega) (by omega) w62_582_5e w62_582_54e
      refine ir_l (pc' := 33) rfl rfl rfl rfl rfl rfl ?_
      refine ir_l (pc' := 34) rfl rfl rfl rfl rfl rfl ?_
      refine ir_cVI (pc' := 37) rfl rfl rfl rfl rfl (Nat.le_of_ble_eq_true rfl) oo_X10_cells (hG_at usk_0) (rf_cellsR L ys (d + 1) s_31 hT_31  ) (fun z4 s5 hr => ?_)
      obtain ⟨hT5, hG5, z4l, z4h⟩ := hr
      have hF5 := ur_trans hF_31 hG5 (by decide)
      have e6 : s5.1 582 5 = w31_582_5 := (hG5.1 _ _ usk_0 5 (by decide)).trans w31_582_5e
      refine ir_c_ge (pt := 96) (pc' := 40) rfl rfl rfl (fun c7 => ?_) (fun c7 => ?_)
      · refine ir_l (pc' := 97) rfl rfl rfl rfl rfl rfl ?_
        refine ir_cVI (pc' := 100) rfl rfl rfl rfl rfl (Nat.le_of_ble_eq_true rfl) oo_X10_holdingMany (hG_at usk_0) (rf_holdingManyR L ys d s5 hT5  ) (fun z8 s9 hr => ?_)
        obtain ⟨hT9, hG9, z8l, z8h⟩ := hr
        have hF9 := ur_trans hF5 hG9 (by decide)
        have e10 : s9.1 582 5 = w31_582_5 := (hG9.1 _ _ usk_0 5 (by decide)).trans e6
        refine ir_s (pc' := 102) rfl rfl rfl rfl rfl rfl ?_
        refine ir_l (pc' := 103) rfl rfl rfl rfl rfl rfl ?_
        rcases (by omega : (x1 < 0 ∨ 7 < x1) ∨ x1 = 0 ∨ x1 = 1 ∨ x1 = 2 ∨ x1 = 3 ∨ x1 = 4 ∨ x1 = 5 ∨ x1 = 6 ∨ x1 = 7) with c11 | c11 | c11 | c11 | c11 | c11 | c11 | c11 | c11
        · refine ir_tabD (pc' := 232) rfl c11 rfl ?_
          refine ir_l (pc' := 233) rfl rfl rfl rfl rfl rfl ?_
          refine ir_ugr (pc' := 236) rfl rfl rfl uf_0_54 usk_0 hT9 (fun b12 b12e b12k => ?_)
          obtain rfl := usg_36 b12k
          refine ir_l (pc' := 237) rfl rfl rfl rfl rfl rfl ?_
          refine ir_cVI (pc' := 240) rfl rfl rfl rfl rfl (Nat.le_of_ble_eq_true rfl) oo_X10_cells (hG_at usk_0) (rf_cellsR L ys (d + 1) s9 hT9  ) (fun z13 s14 hr => ?_)
          obtain ⟨hT14, hG14, z13l, z13h⟩ := hr
          have hF14 := ur_trans hF9 hG14 (by decide)
          have e15 : s14.1 582 5 = w31_582_5 := (hG14.1 _ _ usk_0 5 (by decide)).trans e10
          have e16 : s14.1 582 54 = ((618 : Nat) : Int) := (hG14.1 _ _ usk_0 54 (by decide)).trans b12e
          refine ir_k (pc' := 241) (v := (0, 1)) rfl rfl rfl (fun _ => rfl) ?_
          refine ir_sub (pc' := 242) rfl rfl (by omega) (by omega) ?_
          refine ir_uba (pc' := 243) rfl rfl ue_36 (by decide) (by decide) usk_36 hT14 (by omega) (by omega) (fun z17 z17e z17l z17h => ?_)
          clear z17e
          refine ir_z_eq (pt := 250) (pc' := 246) rfl rfl rfl (fun c18 => ?_) (fun c18 => ?_)
          · refine ir_k (pc' := 251) (v := (0, 0)) rfl rfl rfl (fun _ => rfl) ?_
            refine ir_w [] trivial ?_
            exact J251 (0) (by omega) (by omega) s14 hT14 hF14 (w31_582_5) (by omega) (by omega) e15 e16
          · refine ir_k (pc' := 247) (v := (0, 1)) rfl rfl rfl (fun _ => rfl) ?_
            refine ir_goto (pc' := 251) rfl rfl ?_
            refine ir_w [] trivial ?_
            exact J251 (1) (by omega) (by omega) s14 hT14 hF14 (w31_582_5) (by omega) (by omega) e15 e16
        · refine ir_tab (pc' := 148) 0 rfl (by omega) (by decide) rfl rfl ?_
          refine ir_l (pc' := 150) rfl rfl rfl rfl rfl rfl ?_
          refine ir_z_le (pt := 157) (pc' := 153) rfl rfl rfl (fun c19 => ?_) (fun c19 => ?_)
          · refine ir_k (pc' := 158) (v := (0, 0)) rfl rfl rfl (fun _ => rfl) ?_
            refine ir_w [] trivial ?_
            exact J158 (0) (by omega) (by omega) s9 hT9 hF9 (w31_582_5) (by omega) (by omega) e10
          · refine ir_k (pc' := 154) (v := (0, 1)) rfl rfl rfl (fun _ => rfl) ?_
            refine ir_goto (pc' := 158) rfl rfl ?_
            refine ir_w [] trivial ?_
            exact J158 (1) (by omega) (by omega) s9 hT9 hF9 (w31_582_5) (by omega) (by omega) e10
        · refine ir_tab (pc' := 159) 1 rfl (by omega) (by decide) rfl rfl ?_
          refine ir_l (pc' := 161) rfl rfl rfl rfl rfl rfl ?_
          refine ir_l (pc' := 162) rfl rfl rfl rfl rfl rfl ?_
          refine ir_cVI (pc' := 165) rfl rfl rfl rfl rfl (Nat.le_of_ble_eq_true rfl) oo_X10_cells (hG_at usk_0) (rf_cellsR L ys (d + 1) s9 hT9  ) (fun z20 s21 hr => ?_)
          obtain ⟨hT21, hG21, z20l, z20h⟩ := hr
          have hF21 := ur_trans hF9 hG21 (by decide)
          have e22 : s21.1 582 5 = w31_582_5 := (hG21.1 _ _ usk_0 5 (by decide)).trans e10
          refine ir_c_ne (pt := 172) (pc' := 168) rfl rfl rfl (fun c23 => ?_) (fun c23 => ?_)
          · refine ir_k (pc' := 173) (v := (0, 0)) rfl rfl rfl (fun _ => rfl) ?_
            refine ir_w [] trivial ?_
            exact J173 (0) (by omega) (by omega) s21 hT21 hF21 (w31_582_5) (by omega) (by omega) e22
          · refine ir_k (pc' := 169) (v := (0, 1)) rfl rfl rfl (fun _ => rfl) ?_
            refine ir_goto (pc' := 173) rfl rfl ?_
            refine ir_w [] trivial ?_
            exact J173 (1) (by omega) (by omega) s21 hT21 hF21 (w31_582_5) (by omega) (by omega) e22
        · refine ir_tab (pc' := 174) 2 rfl (by omega) (by decide) rfl rfl ?_
          refine ir_l (pc' := 175) rfl rfl rfl rfl rfl rfl ?_
          exact ir_iret rfl rfl ⟨_, rfl, hT9, hF9, by omega, by omega⟩
        · refine ir_tab (pc' := 176) 3 rfl (by omega) (by decide) rfl rfl ?_
          refine ir_l (pc' := 177) rfl rfl rfl rfl rfl rfl ?_
          exact ir_iret rfl rfl ⟨_, rfl, hT9, hF9, by omega, by omega⟩
        · refine ir_tab (pc' := 178) 4 rfl (by omega) (by decide) rfl rfl ?_
          refine ir_l (pc' := 180) rfl rfl rfl rfl rfl rfl ?_
          exact ir_iret rfl rfl ⟨_, rfl, hT9, hF9, by omega, by omega⟩
        · refine ir_tab (pc' := 181) 5 rfl (by omega) (by decide) rfl rfl ?_
          refine ir_l (pc' := 183) rfl rfl rfl rfl rfl rfl ?_
          refine ir_z_le (pt := 197) (pc' := 186) rfl rfl rfl (fun c24 => ?_) (fun c24 => ?_)
          · refine ir_w [] trivial ?_
            exact J197 s9 hT9 hF9 (w31_582_5) (by omega) (by omega) e10
          · refine ir_l (pc' := 187) rfl rfl rfl rfl rfl rfl ?_
            refine ir_k (pc' := 188) (v := (0, 2)) rfl rfl rfl (fun _ => rfl) ?_
            refine ir_remA (pc' := 189) rfl rfl (by omega) (by omega) (by omega) (by omega) (fun z25 z25l z25h => ?_)
            refine ir_k (pc' := 190) (v := (0, 1)) rfl rfl rfl (fun _ => rfl) ?_
            refine ir_c_ne (pt := 197) (pc' := 193) rfl rfl rfl (fun c26 => ?_) (fun c26 => ?_)
            · refine ir_w [] trivial ?_
              exact J197 s9 hT9 hF9 (w31_582_5) (by omega) (by omega) e10
            · refine ir_k (pc' := 194) (v := (0, 1)) rfl rfl rfl (fun _ => rfl) ?_
              refine ir_goto (pc' := 198) rfl rfl ?_
              refine ir_w [] trivial ?_
              exact J198 (1) (by omega) (by omega) s9 hT9 hF9 (w31_582_5) (by omega) (by omega) e10
        · refine ir_tab (pc' := 199) 6 rfl (by omega) (by decide) rfl rfl ?_
          refine ir_l (pc' := 201) rfl rfl rfl rfl rfl rfl ?_
          refine ir_z_le (pt := 215) (pc' := 204) rfl rfl rfl (fun c27 => ?_) (fun c27 => ?_)
          · refine ir_w [] trivial ?_
            exact J215 s9 hT9 hF9 (w31_582_5) (by omega) (by omega) e10
          · refine ir_l (pc' := 205) rfl rfl rfl rfl rfl rfl ?_
            refine ir_k (pc' := 206) (v := (0, 2)) rfl rfl rfl (fun _ => rfl) ?_
            refine ir_remA (pc' := 207) rfl rfl (by omega) (by omega) (by omega) (by omega) (fun z28 z28l z28h => ?_)
            refine ir_k (pc' := 208) (v := (0, 1)) rfl rfl rfl (fun _ => rfl) ?_
            refine ir_c_ne (pt := 215) (pc' := 211) rfl rfl rfl (fun c29 => ?_) (fun c29 => ?_)
            · refine ir_w [] trivial ?_
              exact J215 s9 hT9 hF9 (w31_582_5) (by omega) (by omega) e10
            · refine ir_k (pc' := 212) (v := (0, 1)) rfl rfl rfl (fun _ => rfl) ?_
              refine ir_goto (pc' := 216) rfl rfl ?_
              refine ir_w [] trivial ?_
              exact J216 (1) (by omega) (by omega) s9 hT9 hF9 (w31_582_5) (by omega) (by omega) e10
        · refine ir_tab (pc' := 217) 7 rfl (by omega) (by decide) rfl rfl ?_
          refine ir_l (pc' := 218) rfl rfl rfl rfl rfl rfl ?_
          refine ir_ugr (pc' := 221) rfl rfl rfl uf_0_54 usk_0 hT9 (fun b30 b30e b30k => ?_)
          obtain rfl := usg_36 b30k
          refine ir_k (pc' := 222) (v := (0, 0)) rfl rfl rfl (fun _ => rfl) ?_
          refine ir_uba (pc' := 223) rfl rfl ue_36 (by decide) (by decide) usk_36 hT9 (by omega) (by omega) (fun z31 z31e z31l z31h => ?_)
          clear z31e
          refine ir_z_eq (pt := 230) (pc' := 226) rfl rfl rfl (fun c32 => ?_) (fun c32 => ?_)
          · refine ir_k (pc' := 231) (v := (0, 0)) rfl rfl rfl (fun _ => rfl) ?_
            refine ir_w [] trivial ?_
            exact J231 (0) (by omega) (by omega) s9 hT9 hF9 (w31_582_5) (by omega) (by omega) e10 b30e
          · refine ir_k (pc' := 227) (v := (0, 1)) rfl rfl rfl (fun _ => rfl) ?_
            refine ir_goto (pc' := 231) rfl rfl ?_
            refine ir_w [] trivial ?_
            exact J231 (1) (by omega) (by omega) s9 hT9 hF9 (w31_582_5) (by omega) (by omega) e10 b30e
      · refine ir_l (pc' := 41) rfl rfl rfl rfl rfl rfl ?_
        refine ir_ugr (pc' := 44) rfl rfl rfl uf_0_54 usk_0 hT5 (fun b33 b33e b33k => ?_)
        obtain rfl := usg_36 b33k
        refine ir_l (pc' := 46) rfl rfl rfl rfl rfl rfl ?_
        refine ir_uba (pc' := 47) rfl rfl ue_36 (by decide) (by decide) usk_36 hT5 (by omega) (by omega) (fun z34 z34e z34l z34h => ?_)
        clear z34e
        refine ir_z_eq (pt := 90) (pc' := 50) rfl rfl rfl (fun c35 => ?_) (fun c35 => ?_)
        · refine ir_w [(0, (2, ((582 : Nat) : Int))), (1, (0, x1)), (2, (0, q31_l2)), (3, (0, q31_l3)), (4, (0, q31_l4)), (5, (0, q31_l5))] ⟨rfl, rfl, rfl, rfl, rfl, rfl, trivial⟩ ?_
          exact J90 (q31_l2) (by omega) (by omega) (q31_l3) (by omega) (by omega) (q31_l4) (by omega) (by omega) (by omega) s5 hT5 hF5 (w31_582_5) (by omega) (by omega) e6 b33e
        · refine ir_l (pc' := 51) rfl rfl rfl rfl rfl rfl ?_
          refine ir_k (pc' := 53) (v := (0, (-2))) rfl rfl rfl (fun _ => rfl) ?_
          refine ir_c_ne (pt := 61) (pc' := 56) rfl rfl rfl (fun c36 => ?_) (fun c36 => ?_)
          · refine ir_l (pc' := 62) rfl rfl rfl rfl rfl rfl ?_
            refine ir_w [(0, (2, ((582 : Nat) : Int))), (1, (0, x1)), (3, (0, q31_l3)), (4, (0, q31_l4)), (5, (0, q31_l5))] ⟨rfl, rfl, rfl, rfl, rfl, trivial⟩ ?_
            exact J62 (q31_l2) (by omega) (by omega) (by omega) s5 hT5 hF5 (w31_582_5) (by omega) (by omega) e6 b33e
          · refine ir_l (pc' := 58) rfl rfl rfl rfl rfl rfl ?_
            refine ir_goto (pc' := 62) rfl rfl ?_
            refine ir_w [(0, (2, ((582 : Nat) : Int))), (1, (0, x1)), (3, (0, q31_l3)), (4, (0, q31_l4)), (5, (0, q31_l5))] ⟨rfl, rfl, rfl, rfl, rfl, trivial⟩ ?_
            exact J62 (q31_l5) (by omega) (by omega) (by omega) s5 hT5 hF5 (w31_582_5) (by omega) (by omega) e6 b33e
  have J17 : ∀ (s_17 : im_S) (hT_17 : uI s_17) (hF_17 : ur [] s0 s_17) (w17_582_5 : Int) (w17_582_5l : 0 ≤ w17_582_5) (w17_582_5h : w17_582_5 ≤ 1) (w17_582_5e : s_17.1 582 5 = w17_582_5), ir gG rm_P L ys (d + 2) rm_p_X10_judge (17, [], [], s_17) (fun r : im_Re => ∃ z, r.1 = some (0, z) ∧ (uI r.2 ∧ ur [] s0 r.2 ∧ -2147483648 ≤ z ∧ z ≤ 2147483647)) := by
    intro s_17 hT_17 hF_17 w17_582_5 w17_582_5l w17_582_5h w17_582_5e
    refine ir_k (pc' := 18) (v := (0, (-1))) rfl rfl rfl (fun _ => rfl) ?_
    exact ir_iret rfl rfl ⟨_, rfl, hT_17, hF_17, by omega, by omega⟩
  refine ir_l (pc' := 1) rfl rfl rfl rfl rfl rfl ?_
  refine ir_ugi (pc' := 4) rfl rfl rfl uf_0_5 usk_0 hT0 (fun z37 z37e z37l z37h => ?_)
  refine ir_z_eq (pt := 17) (pc' := 7) rfl rfl rfl (fun c38 => ?_) (fun c38 => ?_)
  · refine ir_w [] trivial ?_
    exact J17 s0 hT0 hF0 (z37) (by omega) (by omega) z37e
  · refine ir_l (pc' := 8) rfl rfl rfl rfl rfl rfl ?_
    refine ir_z_lt (pt := 17) (pc' := 11) rfl rfl rfl (fun c39 => ?_) (fun c39 => ?_)
    · refine ir_w [] trivial ?_
      exact J17 s0 hT0 hF0 (z37) (by omega) (by omega) z37e
    · refine ir_l (pc' := 12) rfl rfl rfl rfl rfl rfl ?_
      refine ir_k (pc' := 14) (v := (0, 8)) rfl rfl rfl (fun _ => rfl) ?_
      refine ir_c_le (pt := 19) (pc' := 17) rfl rfl rfl (fun c40 => ?_) (fun c40 => ?_)
      · refine ir_k (pc' := 21) (v := (0, (-2))) rfl rfl rfl (fun _ => rfl) ?_
        refine ir_s (pc' := 22) rfl rfl rfl rfl rfl rfl ?_
        refine ir_k (pc' := 24) (v := (0, (-2))) rfl rfl rfl (fun _ => rfl) ?_
        refine ir_s (pc' := 25) rfl rfl rfl rfl rfl rfl ?_
        refine ir_k (pc' := 26) (v := (0, 0)) rfl rfl rfl (fun _ => rfl) ?_
        refine ir_s (pc' := 28) rfl rfl rfl rfl rfl rfl ?_
        refine ir_k (pc' := 29) (v := (0, 0)) rfl rfl rfl (fun _ => rfl) ?_
        refine ir_s (pc' := 31) rfl rfl rfl rfl rfl rfl ?_
        refine ir_w [(0, (2, ((582 : Nat) : Int))), (1, (0, x1)), (2, (0, (-2))), (3, (0, (-2))), (4, (0, 0)), (5, (0, 0))] ⟨rfl, rfl, rfl, rfl, rfl, rfl, trivial⟩ ?_
        exact J31 _ ((-2)) (by omega) (by omega) ((-2)) (by omega) (by omega) (0) (by omega) (by omega) (0) (by omega) (by omega) (by omega) (by omega) s0 hT0 hF0 (z37) (by omega) (by omega) z37e (Int.self_le_toNat _)
      · refine ir_w [] trivial ?_
        exact J17 s0 hT0 hF0 (z37) (by omega) (by omega) z37e
