/-! THE REFERENCE LIFTED, by program -/
def W_signAll_151 (K151 : Int × im_S → Prop) (l1 : Int) (s : im_S) (Q : im_S → Prop) : Prop := (W_cells s (fun z2 s1 => ((z2 ≤ l1 → (Q s1)) ∧ (¬ (z2 ≤ l1) → (W_isSo l1 s1 (fun z5 s4 => ((0 ≤ l1 ∧ l1 < 200) ∧ (∀ s7, s7 = wpa s4 618 l1 z5 → ((iR (l1 + 1)) ∧ (K151 ((l1 + 1), s7)))))))))))
def W_signAll_69 (K2 : Int × im_S → Prop) (K69 : Int × Int × im_S → Prop) (l1 : Int) (l3 : Int) (l4 : Int) (s : im_S) (Q : im_S → Prop) : Prop := ((l4 < 0 → ((iR (l1 + 1)) ∧ (K2 ((l1 + 1), s)))) ∧ (¬ (l4 < 0) → (W_timesAt l4 l1 s (fun z12 s11 => (((z12.tmod 2) = 1 → iR (-l3)) ∧ (∀ v213 : Int, v213 = (if ¬ ((z12.tmod 2) = 1) then l3 else (-l3)) → ((iR (2 * l4)) ∧ (iR ((2 * l4) + 1)) ∧ (iR (10 * ((2 * l4) + 1))) ∧ (iR ((10 * ((2 * l4) + 1)) + l1)) ∧ (∀ v419 : Int, v419 = (if z12 ≤ 0 then v213 else 0) → ((0 ≤ ((10 * ((2 * l4) + 1)) + l1) ∧ ((10 * ((2 * l4) + 1)) + l1) < 2000) ∧ (∀ s422, s422 = wpa s11 617 ((10 * ((2 * l4) + 1)) + l1) v419 → ((iR (20 * l4)) ∧ (0 ≤ ((20 * l4) + l1) ∧ ((20 * l4) + l1) < 2000) ∧ (∀ s426, s426 = wpa s422 617 ((20 * l4) + l1) v213 → ((iR (l4 + (-1))) ∧ (K69 (v213, (l4 + (-1)), s426)))))))))))))))
def W_signAll_2 (K2 : Int × im_S → Prop) (l1 : Int) (s : im_S) (Q : im_S → Prop) : Prop := (((wgf s 6) ≤ l1 → (wloop (fun (K : Int × im_S → Prop) (a : Int × im_S) => W_signAll_151 K a.1 a.2 Q) (0, s))) ∧ (¬ ((wgf s 6) ≤ l1) → (W_degreeOf l1 s (fun z431 s430 => ((0 ≤ z431 → iR (9 * l1)) ∧ (0 ≤ z431 → (0 ≤ ((9 * l1) + z431) ∧ ((9 * l1) + z431) < 90)) ∧ (∀ v632 : Int, v632 = (if 0 ≤ z431 then (if (wga s430 584 ((9 * l1) + z431)) ≤ 0 then (-1) else 1) else 0) → ((iR (20 * (wgf s430 41))) ∧ (0 ≤ ((20 * (wgf s430 41)) + l1) ∧ ((20 * (wgf s430 41)) + l1) < 2000) ∧ (∀ s638, s638 = wpa s430 617 ((20 * (wgf s430 41)) + l1) v632 → ((iR ((wgf s638 41) - 1)) ∧ (wloop (fun (K : Int × Int × im_S → Prop) (a : Int × Int × im_S) => W_signAll_69 K2 K l1 a.1 a.2.1 a.2.2 Q) (v632, ((wgf s638 41) - 1), s638)))))))))))
def W_signAll (s : im_S) (Q : im_S → Prop) : Prop := (wloop (fun (K : Int × im_S → Prop) (a : Int × im_S) => W_signAll_2 K a.1 a.2 Q) (0, s))
set_option maxRecDepth 16384 in
theorem w_signAll (L : Nat) (ys : Nat → Int32) (d : Nat) (s : im_S) (hv : vI s) (Q : im_S → Prop) (hW : W_signAll s Q) : icV gG rm_P L ys (d + 2) 95 [(2, ((582 : Nat) : Int))] s (fun s9 => vI s9 ∧ Q s9) := by
  refine ic_startM (M := rm_p_X10_signAll) om_X10_signAll (Nat.le_of_ble_eq_true rfl) ?_
  refine ir_w [(0, (2, ((582 : Nat) : Int)))] ⟨rfl, trivial⟩ ?_
  have J151 : ∀ (I151 : Int × im_S → Prop) (r151 : Int × im_S → Nat) (hB151 : ∀ a : Int × im_S, I151 a → W_signAll_151 (fun b => I151 b ∧ r151 b < r151 a) a.1 a.2 Q), ∀ n151 : Nat, ∀ (l1 : Int) (l1r : iR l1) (s : im_S) (hv : vI s), I151 (l1, s) → r151 (l1, s) < n151 → ir gG rm_P L ys (d + 1) rm_p_X10_signAll (151, [(0, (2, ((582 : Nat) : Int))), (1, (0, l1))], [], s) (fun r : im_Re => r.1 = none ∧ (vI r.2 ∧ Q r.2)) := by
    intro I151 r151 hB151 n151
    induction n151 with
    | zero => intro l1 l1r s hv hI hr; exact absurd hr (Nat.not_lt_zero _)
    | succ n151 ih151 =>
      intro l1 l1r s hv hI hr151
      obtain ⟨t151, ht151⟩ : ∃ t151 : Int × im_S, t151 = (l1, s) := ⟨_, rfl⟩
      rw [← ht151] at hr151
      have hW : W_signAll_151 (fun b => I151 b ∧ r151 b < r151 t151) l1 s Q := by have z := hB151 (l1, s) hI; rw [ht151]; exact z
      unfold W_signAll_151 at hW
      refine ir_l (pc' := 152) rfl rfl rfl rfl rfl rfl ?_
      refine ir_l (pc' := 153) rfl rfl rfl rfl rfl rfl ?_
      refine ir_cVI (pc' := 156) rfl rfl rfl rfl rfl (Nat.le_of_ble_eq_true rfl) oo_X10_cells vg_582 (w_cells L ys d s hv  _ hW) (fun z2 s1 hr => ?_)
      obtain ⟨s1v, z2r, hW⟩ := hr
      refine ir_c_ge (pt := 176) (pc' := 159) rfl rfl rfl (fun c3 => ?_) (fun c3 => ?_)
      · have hW := hW.1 c3
        exact ir_vret rfl rfl ⟨rfl, s1v, hW⟩
      · have hW := hW.2 c3
        refine ir_l (pc' := 160) rfl rfl rfl rfl rfl rfl ?_
        refine ir_vgr (pc' := 163) (c := 618) rfl rfl rfl rfl rfl s1v ?_
        refine ir_l (pc' := 164) rfl rfl rfl rfl rfl rfl ?_
        refine ir_l (pc' := 165) rfl rfl rfl rfl rfl rfl ?_
        refine ir_l (pc' := 166) rfl rfl rfl rfl rfl rfl ?_
        refine ir_cVI (pc' := 169) rfl rfl rfl rfl rfl (Nat.le_of_ble_eq_true rfl) oo_X10_isSo vg_582 (w_isSo L ys d s1 s1v l1 l1r _ hW) (fun z5 s4 hr => ?_)
        obtain ⟨s4v, z5r, hW⟩ := hr
        obtain ⟨h6, hW⟩ := hW
        refine ir_vbs (pc' := 170) rfl rfl vg_618 rfl (Nat.le_of_ble_eq_true rfl) s4v rfl h6 z5r (fun s7 s7e s7v => ?_)
        have hW := hW s7 s7e
        obtain ⟨h8, hW⟩ := hW
        refine ir_inc (pc' := 173) rfl rfl rfl rfl rfl h8.1 h8.2 ?_
        refine ir_goto (pc' := 151) rfl rfl ?_
        refine ir_w [(0, (2, ((582 : Nat) : Int))), (1, (0, (l1 + 1)))] ⟨rfl, rfl, trivial⟩ ?_
        exact ih151 (l1 + 1) h8 s7 s7v hW.1 (Nat.lt_of_lt_of_le hW.2 (Nat.le_of_lt_succ hr151))
  have J2 : ∀ (I2 : Int × im_S → Prop) (r2 : Int × im_S → Nat) (hB2 : ∀ a : Int × im_S, I2 a → W_signAll_2 (fun b => I2 b ∧ r2 b < r2 a) a.1 a.2 Q), ∀ n2 : Nat, ∀ (l1 : Int) (l1r : iR l1) (s : im_S) (hv : vI s), I2 (l1, s) → r2 (l1, s) < n2 → ir gG rm_P L ys (d + 1) rm_p_X10_signAll (2, [(0, (2, ((582 : Nat) : Int))), (1, (0, l1))], [], s) (fun r : im_Re => r.1 = none ∧ (vI r.2 ∧ Q r.2)) := by
    intro I2 r2 hB2 n2
    induction n2 with
    | zero => intro l1 l1r s hv hI hr; exact absurd hr (Nat.not_lt_zero _)
    | succ n2 ih2 =>
      intro l1 l1r s hv hI hr2
      obtain ⟨t2, ht2⟩ : ∃ t2 : Int × im_S, t2 = (l1, s) := ⟨_, rfl⟩
      rw [← ht2] at hr2
      have hW : W_signAll_2 (fun b => I2 b ∧ r2 b < r2 t2) l1 s Q := by have z := hB2 (l1, s) hI; rw [ht2]; exact z
      have J69 : ∀ (l1 : Int) (l1r : iR l1) (I69 : Int × Int × im_S → Prop) (r69 : Int × Int × im_S → Nat) (hB69 : ∀ a : Int × Int × im_S, I69 a → W_signAll_69 (fun b => I2 b ∧ r2 b < r2 t2) (fun b => I69 b ∧ r69 b < r69 a) l1 a.1 a.2.1 a.2.2 Q), ∀ n69 : Nat, ∀ (l3 : Int) (l3r : iR l3) (l4 : Int) (l4r : iR l4) (s : im_S) (hv : vI s), I69 (l3, l4, s) → r69 (l3, l4, s) < n69 → ir gG rm_P L ys (d + 1) rm_p_X10_signAll (69, [(0, (2, ((582 : Nat) : Int))), (1, (0, l1)), (3, (0, l3)), (4, (0, l4))], [], s) (fun r : im_Re => r.1 = none ∧ (vI r.2 ∧ Q r.2)) := by
        intro l1 l1r I69 r69 hB69 n69
        induction n69 with
        | zero => intro l3 l3r l4 l4r s hv hI hr; exact absurd hr (Nat.not_lt_zero _)
        | succ n69 ih69 =>
          intro l3 l3r l4 l4r s hv hI hr69
          obtain ⟨t69, ht69⟩ : ∃ t69 : Int × Int × im_S, t69 = (l3, l4, s) := ⟨_, rfl⟩
          rw [← ht69] at hr69
          have hW : W_signAll_69 (fun b => I2 b ∧ r2 b < r2 t2) (fun b => I69 b ∧ r69 b < r69 t69) l1 l3 l4 s Q := by have z := hB69 (l3, l4, s) hI; rw [ht69]; exact z
          unfold W_signAll_69 at hW
          refine ir_l (pc' := 71) rfl rfl rfl rfl rfl rfl ?_
          refine ir_z_lt (pt := 143) (pc' := 74) rfl rfl rfl (fun c9 => ?_) (fun c9 => ?_)
          · have hW := hW.1 c9
            obtain ⟨h10, hW⟩ := hW
            refine ir_inc (pc' := 146) rfl rfl rfl rfl rfl h10.1 h10.2 ?_
            refine ir_goto (pc' := 2) rfl rfl ?_
            refine ir_w [(0, (2, ((582 : Nat) : Int))), (1, (0, (l1 + 1)))] ⟨rfl, rfl, trivial⟩ ?_
            exact ih2 (l1 + 1) h10 s hv hW.1 (Nat.lt_of_lt_of_le hW.2 (Nat.le_of_lt_succ hr2))
          · have hW := hW.2 c9
            refine ir_l (pc' := 75) rfl rfl rfl rfl rfl rfl ?_
            refine ir_l (pc' := 77) rfl rfl rfl rfl rfl rfl ?_
            refine ir_l (pc' := 78) rfl rfl rfl rfl rfl rfl ?_
            refine ir_cVI (pc' := 81) rfl rfl rfl rfl rfl (Nat.le_of_ble_eq_true rfl) oo_X10_timesAt vg_582 (w_timesAt L ys d s hv l4 l4r l1 l1r _ hW) (fun z12 s11 hr => ?_)
            obtain ⟨s11v, z12r, hW⟩ := hr
            obtain ⟨h14, hW⟩ := hW
            refine ir_s (pc' := 83) rfl rfl rfl rfl rfl rfl ?_
            refine ir_l (pc' := 85) rfl rfl rfl rfl rfl rfl ?_
            refine ir_k (pc' := 86) (v := (0, 2)) rfl rfl rfl (fun _ => rfl) ?_
            refine ir_rem (pc' := 87) rfl rfl z12r.1 z12r.2 (by decide) (⟨by decide, by decide⟩ : iR 2).2 ?_
            refine ir_k (pc' := 88) (v := (0, 1)) rfl rfl rfl (fun _ => rfl) ?_
            have J214 : ∀ v213 : Int, iR v213 → (((iR (2 * l4)) ∧ (iR ((2 * l4) + 1)) ∧ (iR (10 * ((2 * l4) + 1))) ∧ (iR ((10 * ((2 * l4) + 1)) + l1)) ∧ (∀ v419 : Int, v419 = (if z12 ≤ 0 then v213 else 0) → ((0 ≤ ((10 * ((2 * l4) + 1)) + l1) ∧ ((10 * ((2 * l4) + 1)) + l1) < 2000) ∧ (∀ s422, s422 = wpa s11 617 ((10 * ((2 * l4) + 1)) + l1) v419 → ((iR (20 * l4)) ∧ (0 ≤ ((20 * l4) + l1) ∧ ((20 * l4) + l1) < 2000) ∧ (∀ s426, s426 = wpa s422 617 ((20 * l4) + l1) v213 → ((iR (l4 + (-1))) ∧ ((fun b => I69 b ∧ r69 b < r69 t69) (v213, (l4 + (-1)), s426)))))))))) → ir gG rm_P L ys (d + 1) rm_p_X10_signAll (97, [(0, (2, ((582 : Nat) : Int))), (1, (0, l1)), (4, (0, l4)), (5, (0, z12))], [(0, v213)], s11) (fun r : im_Re => r.1 = none ∧ (vI r.2 ∧ Q r.2)) := by
              intro v213 v213r hW
              obtain ⟨h215, h216, h217, h218, hW⟩ := hW
              refine ir_s (pc' := 98) rfl rfl rfl rfl rfl rfl ?_
              refine ir_l (pc' := 99) rfl rfl rfl rfl rfl rfl ?_
              refine ir_vgr (pc' := 102) (c := 617) rfl rfl rfl rfl rfl s11v ?_
              refine ir_k (pc' := 104) (v := (0, 10)) rfl rfl rfl (fun _ => rfl) ?_
              refine ir_k (pc' := 105) (v := (0, 2)) rfl rfl rfl (fun _ => rfl) ?_
              refine ir_l (pc' := 107) rfl rfl rfl rfl rfl rfl ?_
              refine ir_mul (pc' := 108) rfl rfl h215.1 h215.2 ?_
              refine ir_k (pc' := 109) (v := (0, 1)) rfl rfl rfl (fun _ => rfl) ?_
              refine ir_add (pc' := 110) rfl rfl h216.1 h216.2 ?_
              refine ir_mul (pc' := 111) rfl rfl h217.1 h217.2 ?_
              refine ir_l (pc' := 112) rfl rfl rfl rfl rfl rfl ?_
              refine ir_add (pc' := 113) rfl rfl h218.1 h218.2 ?_
              refine ir_l (pc' := 115) rfl rfl rfl rfl rfl rfl ?_
              have J420 : ∀ v419 : Int, iR v419 → (((0 ≤ ((10 * ((2 * l4) + 1)) + l1) ∧ ((10 * ((2 * l4) + 1)) + l1) < 2000) ∧ (∀ s422, s422 = wpa s11 617 ((10 * ((2 * l4) + 1)) + l1) v419 → ((iR (20 * l4)) ∧ (0 ≤ ((20 * l4) + l1) ∧ ((20 * l4) + l1) < 2000) ∧ (∀ s426, s426 = wpa s422 617 ((20 * l4) + l1) v213 → ((iR (l4 + (-1))) ∧ ((fun b => I69 b ∧ r69 b < r69 t69) (v213, (l4 + (-1)), s426)))))))) → ir gG rm_P L ys (d + 1) rm_p_X10_signAll (123, [(0, (2, ((582 : Nat) : Int))), (1, (0, l1)), (3, (0, v213)), (4, (0, l4))], [(0, v419), (0, ((10 * ((2 * l4) + 1)) + l1)), (2, ((617 : Nat) : Int))], s11) (fun r : im_Re => r.1 = none ∧ (vI r.2 ∧ Q r.2)) := by
                intro v419 v419r hW
                obtain ⟨h421, hW⟩ := hW
                refine ir_vis (pc' := 124) rfl rfl vg_617 rfl (Nat.le_of_ble_eq_true rfl) s11v rfl h421 v419r (fun s422 s422e s422v => ?_)
                have hW := hW s422 s422e
                obtain ⟨h423, h425, hW⟩ := hW
                have h424 : iR ((20 * l4) + l1) := ⟨by omega, by omega⟩
                refine ir_l (pc' := 125) rfl rfl rfl rfl rfl rfl ?_
                refine ir_vgr (pc' := 128) (c := 617) rfl rfl rfl rfl rfl s422v ?_
                refine ir_k (pc' := 130) (v := (0, 20)) rfl rfl rfl (fun _ => rfl) ?_
                refine ir_l (pc' := 132) rfl rfl rfl rfl rfl rfl ?_
                refine ir_mul (pc' := 133) rfl rfl h423.1 h423.2 ?_
                refine ir_l (pc' := 134) rfl rfl rfl rfl rfl rfl ?_
                refine ir_add (pc' := 135) rfl rfl h424.1 h424.2 ?_
                refine ir_l (pc' := 136) rfl rfl rfl rfl rfl rfl ?_
                refine ir_vis (pc' := 137) rfl rfl vg_617 rfl (Nat.le_of_ble_eq_true rfl) s422v rfl h425 v213r (fun s426 s426e s426v => ?_)
                have hW := hW s426 s426e
                obtain ⟨h427, hW⟩ := hW
                refine ir_inc (pc' := 140) rfl rfl rfl rfl rfl h427.1 h427.2 ?_
                refine ir_goto (pc' := 69) rfl rfl ?_
                refine ir_w [(0, (2, ((582 : Nat) : Int))), (1, (0, l1)), (3, (0, v213)), (4, (0, (l4 + (-1))))] ⟨rfl, rfl, rfl, rfl, trivial⟩ ?_
                exact ih69 v213 v213r (l4 + (-1)) h427 s426 s426v hW.1 (Nat.lt_of_lt_of_le hW.2 (Nat.le_of_lt_succ hr69))
              refine ir_z_le (pt := 122) (pc' := 118) rfl rfl rfl (fun c219 => ?_) (fun c219 => ?_)
              · refine ir_l (pc' := 123) rfl rfl rfl rfl rfl rfl ?_
                refine ir_w [(0, (2, ((582 : Nat) : Int))), (1, (0, l1)), (3, (0, v213)), (4, (0, l4))] ⟨rfl, rfl, rfl, rfl, trivial⟩ ?_
                exact J420 v213 v213r (hW _ (by rw [if_pos c219]))
              · refine ir_k (pc' := 119) (v := (0, 0)) rfl rfl rfl (fun _ => rfl) ?_
                refine ir_goto (pc' := 123) rfl rfl ?_
                refine ir_w [(0, (2, ((582 : Nat) : Int))), (1, (0, l1)), (3, (0, v213)), (4, (0, l4))] ⟨rfl, rfl, rfl, rfl, trivial⟩ ?_
                exact J420 0 (zR_i (Or.inl rfl)) (hW _ (by rw [if_neg (fun z => c219 z)]))
            refine ir_c_ne (pt := 96) (pc' := 91) rfl rfl rfl (fun c13 => ?_) (fun c13 => ?_)
            · refine ir_l (pc' := 97) rfl rfl rfl rfl rfl rfl ?_
              refine ir_w [(0, (2, ((582 : Nat) : Int))), (1, (0, l1)), (4, (0, l4)), (5, (0, z12))] ⟨rfl, rfl, rfl, rfl, trivial⟩ ?_
              exact J214 l3 l3r (hW _ (by rw [if_pos c13]))
            · refine ir_l (pc' := 92) rfl rfl rfl rfl rfl rfl ?_
              refine ir_ineg (pc' := 93) rfl rfl (w_ng0 (h14 c13)) l3r.2 ?_
              refine ir_goto (pc' := 97) rfl rfl ?_
              refine ir_w [(0, (2, ((582 : Nat) : Int))), (1, (0, l1)), (4, (0, l4)), (5, (0, z12))] ⟨rfl, rfl, rfl, rfl, trivial⟩ ?_
              exact J214 (-l3) (h14 c13) (hW _ (by rw [if_neg (by omega)]))
      unfold W_signAll_2 at hW
      refine ir_l (pc' := 3) rfl rfl rfl rfl rfl rfl ?_
      refine ir_l (pc' := 4) rfl rfl rfl rfl rfl rfl ?_
      refine ir_vgi (pc' := 7) rfl rfl rfl rfl rfl hv (fun r428 => ?_)
      refine ir_c_ge (pt := 149) (pc' := 10) rfl rfl rfl (fun c429 => ?_) (fun c429 => ?_)
      · have hW := hW.1 c429
        refine ir_k (pc' := 150) (v := (0, 0)) rfl rfl rfl (fun _ => rfl) ?_
        refine ir_s (pc' := 151) rfl rfl rfl rfl rfl rfl ?_
        refine ir_w [(0, (2, ((582 : Nat) : Int))), (1, (0, 0))] ⟨rfl, rfl, trivial⟩ ?_
        obtain ⟨I9, r9, hI9, hB9⟩ := hW
        exact J151 I9 r9 hB9 _ 0 (zR_i (Or.inl rfl)) s hv hI9 (Nat.lt_succ_self _)
      · have hW := hW.2 c429
        refine ir_l (pc' := 11) rfl rfl rfl rfl rfl rfl ?_
        refine ir_l (pc' := 12) rfl rfl rfl rfl rfl rfl ?_
        refine ir_cVI (pc' := 15) rfl rfl rfl rfl rfl (Nat.le_of_ble_eq_true rfl) oo_X10_degreeOf vg_582 (w_degreeOf L ys d s hv l1 l1r _ hW) (fun z431 s430 hr => ?_)
        obtain ⟨s430v, z431r, hW⟩ := hr
        obtain ⟨h433, h435, hW⟩ := hW
        have h434 : 0 ≤ z431 → iR ((9 * l1) + z431) := fun g0_ => ⟨by have z := h435 g0_; omega, by have z := h435 g0_; omega⟩
        refine ir_s (pc' := 16) rfl rfl rfl rfl rfl rfl ?_
        refine ir_l (pc' := 17) rfl rfl rfl rfl rfl rfl ?_
        have J633 : ∀ v632 : Int, iR v632 → (((iR (20 * (wgf s430 41))) ∧ (0 ≤ ((20 * (wgf s430 41)) + l1) ∧ ((20 * (wgf s430 41)) + l1) < 2000) ∧ (∀ s638, s638 = wpa s430 617 ((20 * (wgf s430 41)) + l1) v632 → ((iR ((wgf s638 41) - 1)) ∧ (wloop (fun (K : Int × Int × im_S → Prop) (a : Int × Int × im_S) => W_signAll_69 (fun b => I2 b ∧ r2 b < r2 t2) K l1 a.1 a.2.1 a.2.2 Q) (v632, ((wgf s638 41) - 1), s638)))))) → ir gG rm_P L ys (d + 1) rm_p_X10_signAll (45, [(0, (2, ((582 : Nat) : Int))), (1, (0, l1))], [(0, v632)], s430) (fun r : im_Re => r.1 = none ∧ (vI r.2 ∧ Q r.2)) := by
          intro v632 v632r hW
          obtain ⟨h635, h637, hW⟩ := hW
          have h636 : iR ((20 * (wgf s430 41)) + l1) := ⟨by omega, by omega⟩
          refine ir_s (pc' := 46) rfl rfl rfl rfl rfl rfl ?_
          refine ir_l (pc' := 47) rfl rfl rfl rfl rfl rfl ?_
          refine ir_vgr (pc' := 50) (c := 617) rfl rfl rfl rfl rfl s430v ?_
          refine ir_k (pc' := 52) (v := (0, 20)) rfl rfl rfl (fun _ => rfl) ?_
          refine ir_l (pc' := 53) rfl rfl rfl rfl rfl rfl ?_
          refine ir_vgi (pc' := 56) rfl rfl rfl rfl rfl s430v (fun r634 => ?_)
          refine ir_mul (pc' := 57) rfl rfl h635.1 h635.2 ?_
          refine ir_l (pc' := 58) rfl rfl rfl rfl rfl rfl ?_
          refine ir_add (pc' := 59) rfl rfl h636.1 h636.2 ?_
          refine ir_l (pc' := 60) rfl rfl rfl rfl rfl rfl ?_
          refine ir_vis (pc' := 61) rfl rfl vg_617 rfl (Nat.le_of_ble_eq_true rfl) s430v rfl h637 v632r (fun s638 s638e s638v => ?_)
          have hW := hW s638 s638e
          obtain ⟨h640, hW⟩ := hW
          refine ir_l (pc' := 62) rfl rfl rfl rfl rfl rfl ?_
          refine ir_vgi (pc' := 65) rfl rfl rfl rfl rfl s638v (fun r639 => ?_)
          refine ir_k (pc' := 66) (v := (0, 1)) rfl rfl rfl (fun _ => rfl) ?_
          refine ir_sub (pc' := 67) rfl rfl h640.1 h640.2 ?_
          refine ir_s (pc' := 69) rfl rfl rfl rfl rfl rfl ?_
          refine ir_w [(0, (2, ((582 : Nat) : Int))), (1, (0, l1)), (3, (0, v632)), (4, (0, ((wgf s638 41) - 1)))] ⟨rfl, rfl, rfl, rfl, trivial⟩ ?_
          obtain ⟨I9, r9, hI9, hB9⟩ := hW
          exact J69 l1 l1r I9 r9 hB9 _ v632 v632r ((wgf s638 41) - 1) h640 s638 s638v hI9 (Nat.lt_succ_self _)
        refine ir_z_ge (pt := 24) (pc' := 20) rfl rfl rfl (fun c432 => ?_) (fun c432 => ?_)
        · refine ir_l (pc' := 25) rfl rfl rfl rfl rfl rfl ?_
          refine ir_vgr (pc' := 28) (c := 584) rfl rfl rfl rfl rfl s430v ?_
          refine ir_k (pc' := 30) (v := (0, 9)) rfl rfl rfl (fun _ => rfl) ?_
          refine ir_l (pc' := 31) rfl rfl rfl rfl rfl rfl ?_
          refine ir_mul (pc' := 32) rfl rfl (h433 c432).1 (h433 c432).2 ?_
          refine ir_l (pc' := 33) rfl rfl rfl rfl rfl rfl ?_
          refine ir_add (pc' := 34) rfl rfl (h434 c432).1 (h434 c432).2 ?_
          refine ir_vla (pc' := 35) rfl rfl vg_584 rfl (Nat.le_of_ble_eq_true rfl) s430v rfl (h435 c432) (fun r436 => ?_)
          refine ir_k (pc' := 36) (v := (1, 0)) rfl rfl rfl (fun _ => rfl) ?_
          refine ir_lcmp (pc' := 37) rfl rfl r436.1 r436.2 (⟨by decide, by decide⟩ : lR 0).1 (⟨by decide, by decide⟩ : lR 0).2 (fun z437 z437c => ?_)
          refine ir_z_le (pt := 44) (pc' := 40) rfl rfl rfl (fun c438 => ?_) (fun c438 => ?_)
          · have c438 : (wga s430 584 ((9 * l1) + z431)) ≤ 0 := by omega
            refine ir_k (pc' := 45) (v := (0, (-1))) rfl rfl rfl (fun _ => rfl) ?_
            refine ir_w [(0, (2, ((582 : Nat) : Int))), (1, (0, l1))] ⟨rfl, rfl, trivial⟩ ?_
            exact J633 (-1) (⟨by decide, by decide⟩ : iR (-1)) (hW _ (by rw [if_pos c432, if_pos c438]))
          · have c438 : ¬ ((wga s430 584 ((9 * l1) + z431)) ≤ 0) := by omega
            refine ir_k (pc' := 41) (v := (0, 1)) rfl rfl rfl (fun _ => rfl) ?_
            refine ir_goto (pc' := 45) rfl rfl ?_
            refine ir_w [(0, (2, ((582 : Nat) : Int))), (1, (0, l1))] ⟨rfl, rfl, trivial⟩ ?_
            exact J633 1 (zR_i (Or.inr rfl)) (hW _ (by rw [if_pos c432, if_neg (fun z => c438 z)]))
        · refine ir_k (pc' := 21) (v := (0, 0)) rfl rfl rfl (fun _ => rfl) ?_
          refine ir_goto (pc' := 45) rfl rfl ?_
          refine ir_w [(0, (2, ((582 : Nat) : Int))), (1, (0, l1))] ⟨rfl, rfl, trivial⟩ ?_
          exact J633 0 (zR_i (Or.inl rfl)) (hW _ (by rw [if_neg (fun z => c432 z)]))
  unfold W_signAll at hW
  refine ir_k (pc' := 1) (v := (0, 0)) rfl rfl rfl (fun _ => rfl) ?_
  refine ir_s (pc' := 2) rfl rfl rfl rfl rfl rfl ?_
  refine ir_w [(0, (2, ((582 : Nat) : Int))), (1, (0, 0))] ⟨rfl, rfl, trivial⟩ ?_
  obtain ⟨I9, r9, hI9, hB9⟩ := hW
  exact J2 I9 r9 hB9 _ 0 (zR_i (Or.inl rfl)) s hv hI9 (Nat.lt_succ_self _)
def W_giveBack (l1 : Int) (l2 : Int) (s : im_S) (Q : im_S → Prop) : Prop := (∀ s1, s1 = wpf s 28 l1 → (∀ s2, s2 = wpf s1 24 l2 → (∀ s3, s3 = wpf s2 33 0 → (Q s3))))
set_option maxRecDepth 16384 in
theorem w_giveBack (L : Nat) (ys : Nat → Int32) (d : Nat) (s : im_S) (hv : vI s) (l1 : Int) (l1r : iR l1) (l2 : Int) (l2r : iR l2) (Q : im_S → Prop) (hW : W_giveBack l1 l2 s Q) : icV gG rm_P L ys (d + 1) 44 [(2, ((582 : Nat) : Int)), (0, l1), (0, l2)] s (fun s9 => vI s9 ∧ Q s9) := by
  refine ic_startM (M := rm_p_X10_giveBack) om_X10_giveBack (Nat.le_of_ble_eq_true rfl) ?_
  refine ir_w [(0, (2, ((582 : Nat) : Int))), (1, (0, l1)), (2, (0, l2))] ⟨rfl, rfl, rfl, trivial⟩ ?_
  unfold W_giveBack at hW
  refine ir_l (pc' := 1) rfl rfl rfl rfl rfl rfl ?_
  refine ir_l (pc' := 2) rfl rfl rfl rfl rfl rfl ?_
  refine ir_vpi (pc' := 5) rfl rfl rfl rfl rfl rfl rfl hv l1r (fun s1 s1e s1v => ?_)
  have hW := hW s1 s1e
  refine ir_l (pc' := 6) rfl rfl rfl rfl rfl rfl ?_
  refine ir_l (pc' := 7) rfl rfl rfl rfl rfl rfl ?_
  refine ir_vpi (pc' := 10) rfl rfl rfl rfl rfl rfl rfl s1v l2r (fun s2 s2e s2v => ?_)
  have hW := hW s2 s2e
  refine ir_l (pc' := 11) rfl rfl rfl rfl rfl rfl ?_
  refine ir_k (pc' := 12) (v := (0, 0)) rfl rfl rfl (fun _ => rfl) ?_
  refine ir_vpi (pc' := 15) rfl rfl rfl rfl rfl rfl rfl s2v (zR_i (Or.inl rfl)) (fun s3 s3e s3v => ?_)
  have hW := hW s3 s3e
  exact ir_vret rfl rfl ⟨rfl, s3v, hW⟩
def W_stay_47 (K27 : Int × im_S → Prop) (K47 : Int × im_S → Prop) (l1 : Int) (l2 : Int) (l3 : Int) (l4 : Int) (s : im_S) (Q : im_S → Prop) : Prop := (W_limbs l3 s (fun z2 s1 => ((z2 < l4 → ((iR (l2 + 1)) ∧ (K27 ((l2 + 1), s1)))) ∧ (¬ (z2 < l4) → ((0 ≤ (l3 + l4) ∧ (l3 + l4) < 700000) ∧ (0 ≤ (wgf s1 32) ∧ (wgf s1 32) < 20000) ∧ (∀ s10, s10 = wpa s1 601 (wgf s1 32) (wga s1 597 (l3 + l4)) → ((iR ((wgf s10 32) + 1)) ∧ (∀ s13, s13 = wpf s10 32 ((wgf s10 32) + 1) → ((iR (l4 + 1)) ∧ (K47 ((l4 + 1), s13)))))))))))
def W_stay_27 (K27 : Int × im_S → Prop) (l1 : Int) (l2 : Int) (s : im_S) (Q : im_S → Prop) : Prop := ((0 ≤ l1 ∧ l1 < 1200) ∧ (((wga s 598 l1) < l2 → (Q s)) ∧ (¬ ((wga s 598 l1) < l2) → (W_at l1 l2 s (fun z19 s18 => (wloop (fun (K : Int × im_S → Prop) (a : Int × im_S) => W_stay_47 K27 K l1 l2 z19 a.1 a.2 Q) (0, s18)))))))
def W_stay (l1 : Int) (s : im_S) (Q : im_S → Prop) : Prop := ((0 ≤ l1 ∧ l1 < 1200) ∧ (0 ≤ (wgf s 32) ∧ (wgf s 32) < 20000) ∧ (∀ s24, s24 = wpa s 601 (wgf s 32) (wga s 598 l1) → ((iR ((wgf s24 32) + 1)) ∧ (∀ s27, s27 = wpf s24 32 ((wgf s24 32) + 1) → (wloop (fun (K : Int × im_S → Prop) (a : Int × im_S) => W_stay_27 K l1 a.1 a.2 Q) (0, s27))))))
set_option maxRecDepth 16384 in
theorem w_stay (L : Nat) (ys : Nat → Int32) (d : Nat) (s : im_S) (hv : vI s) (l1 : Int) (l1r : iR l1) (Q : im_S → Prop) (hW : W_stay l1 s Q) : icV gG rm_P L ys (d + 2) 99 [(2, ((582 : Nat) : Int)), (0, l1)] s (fun s9 => vI s9 ∧ Q s9) := by
  refine ic_startM (M := rm_p_X10_stay) om_X10_stay (Nat.le_of_ble_eq_true rfl) ?_
  refine ir_w [(0, (2, ((582 : Nat) : Int))), (1, (0, l1))] ⟨rfl, rfl, trivial⟩ ?_
  have J27 : ∀ (l1 : Int) (l1r : iR l1) (I27 : Int × im_S → Prop) (r27 : Int × im_S → Nat) (hB27 : ∀ a : Int × im_S, I27 a → W_stay_27 (fun b => I27 b ∧ r27 b < r27 a) l1 a.1 a.2 Q), ∀ n27 : Nat, ∀ (l2 : Int) (l2r : iR l2) (s : im_S) (hv : vI s), I27 (l2, s) → r27 (l2, s) < n27 → ir gG rm_P L ys (d + 1) rm_p_X10_stay (27, [(0, (2, ((582 : Nat) : Int))), (1, (0, l1)), (2, (0, l2))], [], s) (fun r : im_Re => r.1 = none ∧ (vI r.2 ∧ Q r.2)) := by
    intro l1 l1r I27 r27 hB27 n27
    induction n27 with
    | zero => intro l2 l2r s hv hI hr; exact absurd hr (Nat.not_lt_zero _)
    | succ n27 ih27 =>
      intro l2 l2r s hv hI hr27
      obtain ⟨t27, ht27⟩ : ∃ t27 : Int × im_S, t27 = (l2, s) := ⟨_, rfl⟩
      rw [← ht27] at hr27
      have hW : W_stay_27 (fun b => I27 b ∧ r27 b < r27 t27) l1 l2 s Q := by have z := hB27 (l2, s) hI; rw [ht27]; exact z
      have J47 : ∀ (l2 : Int) (l2r : iR l2) (l3 : Int) (l3r : iR l3) (I47 : Int × im_S → Prop) (r47 : Int × im_S → Nat) (hB47 : ∀ a : Int × im_S, I47 a → W_stay_47 (fun b => I27 b ∧ r27 b < r27 t27) (fun b => I47 b ∧ r47 b < r47 a) l1 l2 l3 a.1 a.2 Q), ∀ n47 : Nat, ∀ (l4 : Int) (l4r : iR l4) (s : im_S) (hv : vI s), I47 (l4, s) → r47 (l4, s) < n47 → ir gG rm_P L ys (d + 1) rm_p_X10_stay (47, [(0, (2, ((582 : Nat) : Int))), (1, (0, l1)), (2, (0, l2)), (3, (0, l3)), (4, (0, l4))], [], s) (fun r : im_Re => r.1 = none ∧ (vI r.2 ∧ Q r.2)) := by
        intro l2 l2r l3 l3r I47 r47 hB47 n47
        induction n47 with
        | zero => intro l4 l4r s hv hI hr; exact absurd hr (Nat.not_lt_zero _)
        | succ n47 ih47 =>
          intro l4 l4r s hv hI hr47
          obtain ⟨t47, ht47⟩ : ∃ t47 : Int × im_S, t47 = (l4, s) := ⟨_, rfl⟩
          rw [← ht47] at hr47
          have hW : W_stay_47 (fun b => I27 b ∧ r27 b < r27 t27) (fun b => I47 b ∧ r47 b < r47 t47) l1 l2 l3 l4 s Q := by have z := hB47 (l4, s) hI; rw [ht47]; exact z
          unfold W_stay_47 at hW
          refine ir_l (pc' := 49) rfl rfl rfl rfl rfl rfl ?_
          refine ir_l (pc' := 50) rfl rfl rfl rfl rfl rfl ?_
          refine ir_l (pc' := 51) rfl rfl rfl rfl rfl rfl ?_
          refine ir_cVI (pc' := 54) rfl rfl rfl rfl rfl (Nat.le_of_ble_eq_true rfl) oo_X10_limbs vg_582 (w_limbs L ys d s hv l3 l3r _ hW) (fun z2 s1 hr => ?_)
          obtain ⟨s1v, z2r, hW⟩ := hr
          refine ir_c_gt (pt := 91) (pc' := 57) rfl rfl rfl (fun c3 => ?_) (fun c3 => ?_)
          · have hW := hW.1 c3
            obtain ⟨h4, hW⟩ := hW
            refine ir_inc (pc' := 94) rfl rfl rfl rfl rfl h4.1 h4.2 ?_
            refine ir_goto (pc' := 27) rfl rfl ?_
            refine ir_w [(0, (2, ((582 : Nat) : Int))), (1, (0, l1)), (2, (0, (l2 + 1)))] ⟨rfl, rfl, rfl, trivial⟩ ?_
            exact ih27 (l2 + 1) h4 s1 s1v hW.1 (Nat.lt_of_lt_of_le hW.2 (Nat.le_of_lt_succ hr27))
          · have hW := hW.2 c3
            obtain ⟨h7, h9, hW⟩ := hW
            have h6 : iR (l3 + l4) := ⟨by omega, by omega⟩
            refine ir_l (pc' := 58) rfl rfl rfl rfl rfl rfl ?_
            refine ir_vgr (pc' := 61) (c := 601) rfl rfl rfl rfl rfl s1v ?_
            refine ir_l (pc' := 62) rfl rfl rfl rfl rfl rfl ?_
            refine ir_vgi (pc' := 65) rfl rfl rfl rfl rfl s1v (fun r5 => ?_)
            refine ir_l (pc' := 66) rfl rfl rfl rfl rfl rfl ?_
            refine ir_vgr (pc' := 69) (c := 597) rfl rfl rfl rfl rfl s1v ?_
            refine ir_l (pc' := 70) rfl rfl rfl rfl rfl rfl ?_
            refine ir_l (pc' := 72) rfl rfl rfl rfl rfl rfl ?_
            refine ir_add (pc' := 73) rfl rfl h6.1 h6.2 ?_
            refine ir_via (pc' := 74) rfl rfl vg_597 rfl (Nat.le_of_ble_eq_true rfl) s1v rfl h7 (fun r8 => ?_)
            refine ir_vis (pc' := 75) rfl rfl vg_601 rfl (Nat.le_of_ble_eq_true rfl) s1v rfl h9 r8 (fun s10 s10e s10v => ?_)
            have hW := hW s10 s10e
            obtain ⟨h12, hW⟩ := hW
            refine ir_l (pc' := 76) rfl rfl rfl rfl rfl rfl ?_
            refine ir_x (pc' := 77) rfl rfl rfl (fun _ => rfl) ?_
            refine ir_vgi (pc' := 80) rfl rfl rfl rfl rfl s10v (fun r11 => ?_)
            refine ir_k (pc' := 81) (v := (0, 1)) rfl rfl rfl (fun _ => rfl) ?_
            refine ir_add (pc' := 82) rfl rfl h12.1 h12.2 ?_
            refine ir_vpi (pc' := 85) rfl rfl rfl rfl rfl rfl rfl s10v h12 (fun s13 s13e s13v => ?_)
            have hW := hW s13 s13e
            obtain ⟨h14, hW⟩ := hW
            refine ir_inc (pc' := 88) rfl rfl rfl rfl rfl h14.1 h14.2 ?_
            refine ir_goto (pc' := 47) rfl rfl ?_
            refine ir_w [(0, (2, ((582 : Nat) : Int))), (1, (0, l1)), (2, (0, l2)), (3, (0, l3)), (4, (0, (l4 + 1)))] ⟨rfl, rfl, rfl, rfl, rfl, trivial⟩ ?_
            exact ih47 (l4 + 1) h14 s13 s13v hW.1 (Nat.lt_of_lt_of_le hW.2 (Nat.le_of_lt_succ hr47))
      unfold W_stay_27 at hW
      obtain ⟨h15, hW⟩ := hW
      refine ir_l (pc' := 28) rfl rfl rfl rfl rfl rfl ?_
      refine ir_l (pc' := 29) rfl rfl rfl rfl rfl rfl ?_
      refine ir_vgr (pc' := 32) (c := 598) rfl rfl rfl rfl rfl hv ?_
      refine ir_l (pc' := 33) rfl rfl rfl rfl rfl rfl ?_
      refine ir_via (pc' := 34) rfl rfl vg_598 rfl (Nat.le_of_ble_eq_true rfl) hv rfl h15 (fun r16 => ?_)
      refine ir_c_gt (pt := 97) (pc' := 37) rfl rfl rfl (fun c17 => ?_) (fun c17 => ?_)
      · have hW := hW.1 c17
        exact ir_vret rfl rfl ⟨rfl, hv, hW⟩
      · have hW := hW.2 c17
        refine ir_l (pc' := 38) rfl rfl rfl rfl rfl rfl ?_
        refine ir_l (pc' := 39) rfl rfl rfl rfl rfl rfl ?_
        refine ir_l (pc' := 40) rfl rfl rfl rfl rfl rfl ?_
        refine ir_cVI (pc' := 43) rfl rfl rfl rfl rfl (Nat.le_of_ble_eq_true rfl) oo_X10_at vg_582 (w_at L ys d s hv l1 l1r l2 l2r _ hW) (fun z19 s18 hr => ?_)
        obtain ⟨s18v, z19r, hW⟩ := hr
        refine ir_s (pc' := 44) rfl rfl rfl rfl rfl rfl ?_
        refine ir_k (pc' := 45) (v := (0, 0)) rfl rfl rfl (fun _ => rfl) ?_
        refine ir_s (pc' := 47) rfl rfl rfl rfl rfl rfl ?_
        refine ir_w [(0, (2, ((582 : Nat) : Int))), (1, (0, l1)), (2, (0, l2)), (3, (0, z19)), (4, (0, 0))] ⟨rfl, rfl, rfl, rfl, rfl, trivial⟩ ?_
        obtain ⟨I9, r9, hI9, hB9⟩ := hW
        exact J47 l2 l2r z19 z19r I9 r9 hB9 _ 0 (zR_i (Or.inl rfl)) s18 s18v hI9 (Nat.lt_succ_self _)
  unfold W_stay at hW
  obtain ⟨h21, h23, hW⟩ := hW
  refine ir_l (pc' := 1) rfl rfl rfl rfl rfl rfl ?_
  refine ir_vgr (pc' := 4) (c := 601) rfl rfl rfl rfl rfl hv ?_
  refine ir_l (pc' := 5) rfl rfl rfl rfl rfl rfl ?_
  refine ir_vgi (pc' := 8) rfl rfl rfl rfl rfl hv (fun r20 => ?_)
  refine ir_l (pc' := 9) rfl rfl rfl rfl rfl rfl ?_
  refine ir_vgr (pc' := 12) (c := 598) rfl rfl rfl rfl rfl hv ?_
  refine ir_l (pc' := 13) rfl rfl rfl rfl rfl rfl ?_
  refine ir_via (pc' := 14) rfl rfl vg_598 rfl (Nat.le_of_ble_eq_true rfl) hv rfl h21 (fun r22 => ?_)
  refine ir_vis (pc' := 15) rfl rfl vg_601 rfl (Nat.le_of_ble_eq_true rfl) hv rfl h23 r22 (fun s24 s24e s24v => ?_)
  have hW := hW s24 s24e
  obtain ⟨h26, hW⟩ := hW
  refine ir_l (pc' := 16) rfl rfl rfl rfl rfl rfl ?_
  refine ir_x (pc' := 17) rfl rfl rfl (fun _ => rfl) ?_
  refine ir_vgi (pc' := 20) rfl rfl rfl rfl rfl s24v (fun r25 => ?_)
  refine ir_k (pc' := 21) (v := (0, 1)) rfl rfl rfl (fun _ => rfl) ?_
  refine ir_add (pc' := 22) rfl rfl h26.1 h26.2 ?_
  refine ir_vpi (pc' := 25) rfl rfl rfl rfl rfl rfl rfl s24v h26 (fun s27 s27e s27v => ?_)
  have hW := hW s27 s27e
  refine ir_k (pc' := 26) (v := (0, 0)) rfl rfl rfl (fun _ => rfl) ?_
  refine ir_s (pc' := 27) rfl rfl rfl rfl rfl rfl ?_
  refine ir_w [(0, (2, ((582 : Nat) : Int))), (1, (0, l1)), (2, (0, 0))] ⟨rfl, rfl, rfl, trivial⟩ ?_
  obtain ⟨I9, r9, hI9, hB9⟩ := hW
  exact J27 l1 l1r I9 r9 hB9 _ 0 (zR_i (Or.inl rfl)) s27 s27v hI9 (Nat.lt_succ_self _)
def W_share_180 (K140 : Int × im_S → Prop) (K180 : Int × im_S → Prop) (l2 : Int) (l3 : Int) (l4 : Int) (l5 : Int) (l7 : Int) (l8 : Int) (l9 : Int) (s : im_S) (Q : Int → im_S → Prop) : Prop := ((0 ≤ l2 ∧ l2 < 1200) ∧ (((wga s 598 l2) < l9 → ((iR (l7 + (-1))) ∧ (K140 ((l7 + (-1)), s)))) ∧ (¬ ((wga s 598 l2) < l9) → ((iR (l7 + l9)) ∧ (W_at l3 (l7 + l9) s (fun z7 s6 => (W_at l2 l9 s6 (fun z9 s8 => (W_by l8 z9 s8 (fun z11 s10 => (W_minus z7 z11 s10 (fun z13 s12 => (W_set l3 (l7 + l9) z13 s12 (fun s14 => ((iR (l9 + 1)) ∧ (K180 ((l9 + 1), s14)))))))))))))))))
def W_share_140 (K140 : Int × im_S → Prop) (l2 : Int) (l3 : Int) (l4 : Int) (l5 : Int) (l7 : Int) (s : im_S) (Q : Int → im_S → Prop) : Prop := ((l7 < 0 → (W_clean l4 1 s (fun s18 => (Q l4 s18)))) ∧ (¬ (l7 < 0) → ((0 ≤ l2 ∧ l2 < 1200) ∧ (iR (l7 + (wga s 598 l2))) ∧ (W_at l3 (l7 + (wga s 598 l2)) s (fun z24 s23 => (W_over z24 l5 s23 (fun z26 s25 => (W_set l4 l7 z26 s25 (fun s27 => (wloop (fun (K : Int × im_S → Prop) (a : Int × im_S) => W_share_180 K140 K l2 l3 l4 l5 l7 z26 a.1 a.2 Q) (0, s27)))))))))))
def W_share_88 (K88 : Int × im_S → Prop) (l1 : Int) (l2 : Int) (l3 : Int) (l4 : Int) (l5 : Int) (l6 : Int) (l7 : Int) (s : im_S) (Q : Int → im_S → Prop) : Prop := ((0 ≤ l1 ∧ l1 < 1200) ∧ (((wga s 598 l1) < l7 → ((0 ≤ l1 ∧ l1 < 1200) ∧ (0 ≤ l2 ∧ l2 < 1200) ∧ (iR ((wga s 598 l1) - (wga s 598 l2))) ∧ (wloop (fun (K : Int × im_S → Prop) (a : Int × im_S) => W_share_140 K l2 l3 l4 l5 a.1 a.2 Q) (((wga s 598 l1) - (wga s 598 l2)), s)))) ∧ (¬ ((wga s 598 l1) < l7) → (W_at l1 l7 s (fun z38 s37 => (W_by z38 l6 s37 (fun z40 s39 => (W_set l3 l7 z40 s39 (fun s41 => ((iR (l7 + 1)) ∧ (K88 ((l7 + 1), s41))))))))))))
def W_share_58 (K58 : Int × Int × im_S → Prop) (l1 : Int) (l2 : Int) (l3 : Int) (l4 : Int) (l5 : Int) (l6 : Int) (l7 : Int) (s : im_S) (Q : Int → im_S → Prop) : Prop := ((0 ≤ l1 ∧ l1 < 1200) ∧ (((wga s 598 l1) < l7 → (wloop (fun (K : Int × im_S → Prop) (a : Int × im_S) => W_share_88 K l1 l2 l3 l4 l5 l6 a.1 a.2 Q) (0, s))) ∧ (¬ ((wga s 598 l1) < l7) → (W_by l6 l5 s (fun z48 s47 => ((iR (l7 + 1)) ∧ (K58 (z48, (l7 + 1), s47))))))))
def W_share (l1 : Int) (l2 : Int) (s : im_S) (Q : Int → im_S → Prop) : Prop := ((0 ≤ l1 ∧ l1 < 1200) ∧ (W_newPolynomial (wga s 598 l1) s (fun z53 s52 => ((0 ≤ l1 ∧ l1 < 1200) ∧ (0 ≤ l2 ∧ l2 < 1200) ∧ (iR ((wga s52 598 l1) - (wga s52 598 l2))) ∧ (W_newPolynomial ((wga s52 598 l1) - (wga s52 598 l2)) s52 (fun z60 s59 => ((0 ≤ l2 ∧ l2 < 1200) ∧ (W_at l2 (wga s59 598 l2) s59 (fun z64 s63 => (W_whole 1 s63 (fun z66 s65 => ((0 ≤ l2 ∧ l2 < 1200) ∧ (wloop (fun (K : Int × Int × im_S → Prop) (a : Int × Int × im_S) => W_share_58 K l1 l2 z53 z60 z64 a.1 a.2.1 a.2.2 Q) (z66, (wga s65 598 l2), s65))))))))))))))
set_option maxRecDepth 16384 in
theorem w_share (L : Nat) (ys : Nat → Int32) (d : Nat) (s : im_S) (hv : vI s) (l1 : Int) (l1r : iR l1) (l2 : Int) (l2r : iR l2) (Q : Int → im_S → Prop) (hW : W_share l1 l2 s Q) : icI gG rm_P L ys 0 (d + 8) 93 [(2, ((582 : Nat) : Int)), (0, l1), (0, l2)] s (fun z9 s9 => vI s9 ∧ iR z9 ∧ Q z9 s9) := by
  refine ic_startM (M := rm_p_X10_share) om_X10_share (Nat.le_of_ble_eq_true rfl) ?_
  refine ir_w [(0, (2, ((582 : Nat) : Int))), (1, (0, l1)), (2, (0, l2))] ⟨rfl, rfl, rfl, trivial⟩ ?_
  have J140 : ∀ (l2 : Int) (l2r : iR l2) (l3 : Int) (l3r : iR l3) (l4 : Int) (l4r : iR l4) (l5 : Int) (l5r : iR l5) (I140 : Int × im_S → Prop) (r140 : Int × im_S → Nat) (hB140 : ∀ a : Int × im_S, I140 a → W_share_140 (fun b => I140 b ∧ r140 b < r140 a) l2 l3 l4 l5 a.1 a.2 Q), ∀ n140 : Nat, ∀ (l7 : Int) (l7r : iR l7) (s : im_S) (hv : vI s), I140 (l7, s) → r140 (l7, s) < n140 → ir gG rm_P L ys (d + 7) rm_p_X10_share (140, [(0, (2, ((582 : Nat) : Int))), (2, (0, l2)), (3, (0, l3)), (4, (0, l4)), (5, (0, l5)), (7, (0, l7))], [], s) (fun r : im_Re => ∃ z, r.1 = some (0, z) ∧ (vI r.2 ∧ iR z ∧ Q z r.2)) := by
    intro l2 l2r l3 l3r l4 l4r l5 l5r I140 r140 hB140 n140
    induction n140 with
    | zero => intro l7 l7r s hv hI hr; exact absurd hr (Nat.not_lt_zero _)
    | succ n140 ih140 =>
      intro l7 l7r s hv hI hr140
      obtain ⟨t140, ht140⟩ : ∃ t140 : Int × im_S, t140 = (l7, s) := ⟨_, rfl⟩
      rw [← ht140] at hr140
      have hW : W_share_140 (fun b => I140 b ∧ r140 b < r140 t140) l2 l3 l4 l5 l7 s Q := by have z := hB140 (l7, s) hI; rw [ht140]; exact z
      have J180 : ∀ (l7 : Int) (l7r : iR l7) (l8 : Int) (l8r : iR l8) (I180 : Int × im_S → Prop) (r180 : Int × im_S → Nat) (hB180 : ∀ a : Int × im_S, I180 a → W_share_180 (fun b => I140 b ∧ r140 b < r140 t140) (fun b => I180 b ∧ r180 b < r180 a) l2 l3 l4 l5 l7 l8 a.1 a.2 Q), ∀ n180 : Nat, ∀ (l9 : Int) (l9r : iR l9) (s : im_S) (hv : vI s), I180 (l9, s) → r180 (l9, s) < n180 → ir gG rm_P L ys (d + 7) rm_p_X10_share (180, [(0, (2, ((582 : Nat) : Int))), (2, (0, l2)), (3, (0, l3)), (4, (0, l4)), (5, (0, l5)), (7, (0, l7)), (8, (0, l8)), (9, (0, l9))], [], s) (fun r : im_Re => ∃ z, r.1 = some (0, z) ∧ (vI r.2 ∧ iR z ∧ Q z r.2)) := by
        intro l7 l7r l8 l8r I180 r180 hB180 n180
        induction n180 with
        | zero => intro l9 l9r s hv hI hr; exact absurd hr (Nat.not_lt_zero _)
        | succ n180 ih180 =>
          intro l9 l9r s hv hI hr180
          obtain ⟨t180, ht180⟩ : ∃ t180 : Int × im_S, t180 = (l9, s) := ⟨_, rfl⟩
          rw [← ht180] at hr180
          have hW : W_share_180 (fun b => I140 b ∧ r140 b < r140 t140) (fun b => I180 b ∧ r180 b < r180 t180) l2 l3 l4 l5 l7 l8 l9 s Q := by have z := hB180 (l9, s) hI; rw [ht180]; exact z
          unfold W_share_180 at hW
          obtain ⟨h1, hW⟩ := hW
          refine ir_l (pc' := 182) rfl rfl rfl rfl rfl rfl ?_
          refine ir_l (pc' := 183) rfl rfl rfl rfl rfl rfl ?_
          refine ir_vgr (pc' := 186) (c := 598) rfl rfl rfl rfl rfl hv ?_
          refine ir_l (pc' := 187) rfl rfl rfl rfl rfl rfl ?_
          refine ir_via (pc' := 188) rfl rfl vg_598 rfl (Nat.le_of_ble_eq_true rfl) hv rfl h1 (fun r2 => ?_)
          refine ir_c_gt (pt := 234) (pc' := 191) rfl rfl rfl (fun c3 => ?_) (fun c3 => ?_)
          · have hW := hW.1 c3
            obtain ⟨h4, hW⟩ := hW
            refine ir_inc (pc' := 237) rfl rfl rfl rfl rfl h4.1 h4.2 ?_
            refine ir_goto (pc' := 140) rfl rfl ?_
            refine ir_w [(0, (2, ((582 : Nat) : Int))), (2, (0, l2)), (3, (0, l3)), (4, (0, l4)), (5, (0, l5)), (7, (0, (l7 + (-1))))] ⟨rfl, rfl, rfl, rfl, rfl, rfl, trivial⟩ ?_
            exact ih140 (l7 + (-1)) h4 s hv hW.1 (Nat.lt_of_lt_of_le hW.2 (Nat.le_of_lt_succ hr140))
          · have hW := hW.2 c3
            obtain ⟨h5, hW⟩ := hW
            refine ir_l (pc' := 192) rfl rfl rfl rfl rfl rfl ?_
            refine ir_l (pc' := 193) rfl rfl rfl rfl rfl rfl ?_
            refine ir_l (pc' := 195) rfl rfl rfl rfl rfl rfl ?_
            refine ir_l (pc' := 197) rfl rfl rfl rfl rfl rfl ?_
            refine ir_add (pc' := 198) rfl rfl h5.1 h5.2 ?_
            refine ir_l (pc' := 199) rfl rfl rfl rfl rfl rfl ?_
            refine ir_l (pc' := 200) rfl rfl rfl rfl rfl rfl ?_
            refine ir_l (pc' := 201) rfl rfl rfl rfl rfl rfl ?_
            refine ir_l (pc' := 203) rfl rfl rfl rfl rfl rfl ?_
            refine ir_l (pc' := 205) rfl rfl rfl rfl rfl rfl ?_
            refine ir_add (pc' := 206) rfl rfl h5.1 h5.2 ?_
            refine ir_cVI (pc' := 209) rfl rfl rfl rfl rfl (Nat.le_of_ble_eq_true rfl) oo_X10_at vg_582 (w_at L ys (d + 6) s hv l3 l3r (l7 + l9) h5 _ hW) (fun z7 s6 hr => ?_)
            obtain ⟨s6v, z7r, hW⟩ := hr
            refine ir_l (pc' := 210) rfl rfl rfl rfl rfl rfl ?_
            refine ir_l (pc' := 212) rfl rfl rfl rfl rfl rfl ?_
            refine ir_l (pc' := 213) rfl rfl rfl rfl rfl rfl ?_
            refine ir_l (pc' := 214) rfl rfl rfl rfl rfl rfl ?_
            refine ir_l (pc' := 216) rfl rfl rfl rfl rfl rfl ?_
            refine ir_cVI (pc' := 219) rfl rfl rfl rfl rfl (Nat.le_of_ble_eq_true rfl) oo_X10_at vg_582 (w_at L ys (d + 6) s6 s6v l2 l2r l9 l9r _ hW) (fun z9 s8 hr => ?_)
            obtain ⟨s8v, z9r, hW⟩ := hr
            refine ir_cVI (pc' := 222) rfl rfl rfl rfl rfl (Nat.le_of_ble_eq_true rfl) oo_X10_by vg_582 (w_by L ys (d + 5) s8 s8v l8 l8r z9 z9r _ hW) (fun z11 s10 hr => ?_)
            obtain ⟨s10v, z11r, hW⟩ := hr
            refine ir_cVI (pc' := 225) rfl rfl rfl rfl rfl (Nat.le_of_ble_eq_true rfl) oo_X10_minus vg_582 (w_minus L ys (d + 2) s10 s10v z7 z7r z11 z11r _ hW) (fun z13 s12 hr => ?_)
            obtain ⟨s12v, z13r, hW⟩ := hr
            refine ir_cVV (pc' := 228) rfl rfl rfl rfl rfl (Nat.le_of_ble_eq_true rfl) oo_X10_set vg_582 (w_set L ys (d + 6) s12 s12v l3 l3r (l7 + l9) h5 z13 z13r _ hW) (fun s14 hr => ?_)
            obtain ⟨s14v, hW⟩ := hr
            obtain ⟨h16, hW⟩ := hW
            refine ir_inc (pc' := 231) rfl rfl rfl rfl rfl h16.1 h16.2 ?_
            refine ir_goto (pc' := 180) rfl rfl ?_
            refine ir_w [(0, (2, ((582 : Nat) : Int))), (2, (0, l2)), (3, (0, l3)), (4, (0, l4)), (5, (0, l5)), (7, (0, l7)), (8, (0, l8)), (9, (0, (l9 + 1)))] ⟨rfl, rfl, rfl, rfl, rfl, rfl, rfl, rfl, trivial⟩ ?_
            exact ih180 (l9 + 1) h16 s14 s14v hW.1 (Nat.lt_of_lt_of_le hW.2 (Nat.le_of_lt_succ hr180))
      unfold W_share_140 at hW
      refine ir_l (pc' := 142) rfl rfl rfl rfl rfl rfl ?_
      refine ir_z_lt (pt := 240) (pc' := 145) rfl rfl rfl (fun c17 => ?_) (fun c17 => ?_)
      · have hW := hW.1 c17
        refine ir_l (pc' := 241) rfl rfl rfl rfl rfl rfl ?_
        refine ir_l (pc' := 243) rfl rfl rfl rfl rfl rfl ?_
        refine ir_k (pc' := 244) (v := (0, 1)) rfl rfl rfl (fun _ => rfl) ?_
        refine ir_cVV (pc' := 247) rfl rfl rfl rfl rfl (Nat.le_of_ble_eq_true rfl) oo_X10_clean vg_582 (w_clean L ys d s hv l4 l4r 1 (Or.inr rfl) _ hW) (fun s18 hr => ?_)
        obtain ⟨s18v, hW⟩ := hr
        refine ir_l (pc' := 249) rfl rfl rfl rfl rfl rfl ?_
        exact ir_iret rfl rfl ⟨_, rfl, s18v, l4r, hW⟩
      · have hW := hW.2 c17
        obtain ⟨h20, h22, hW⟩ := hW
        refine ir_l (pc' := 146) rfl rfl rfl rfl rfl rfl ?_
        refine ir_l (pc' := 147) rfl rfl rfl rfl rfl rfl ?_
        refine ir_l (pc' := 148) rfl rfl rfl rfl rfl rfl ?_
        refine ir_l (pc' := 150) rfl rfl rfl rfl rfl rfl ?_
        refine ir_l (pc' := 151) rfl rfl rfl rfl rfl rfl ?_
        refine ir_vgr (pc' := 154) (c := 598) rfl rfl rfl rfl rfl hv ?_
        refine ir_l (pc' := 155) rfl rfl rfl rfl rfl rfl ?_
        refine ir_via (pc' := 156) rfl rfl vg_598 rfl (Nat.le_of_ble_eq_true rfl) hv rfl h20 (fun r21 => ?_)
        refine ir_add (pc' := 157) rfl rfl h22.1 h22.2 ?_
        refine ir_cVI (pc' := 160) rfl rfl rfl rfl rfl (Nat.le_of_ble_eq_true rfl) oo_X10_at vg_582 (w_at L ys (d + 6) s hv l3 l3r (l7 + (wga s 598 l2)) h22 _ hW) (fun z24 s23 hr => ?_)
        obtain ⟨s23v, z24r, hW⟩ := hr
        refine ir_l (pc' := 162) rfl rfl rfl rfl rfl rfl ?_
        refine ir_cVI (pc' := 165) rfl rfl rfl rfl rfl (Nat.le_of_ble_eq_true rfl) oo_X10_over vg_582 (w_over L ys (d + 1) s23 s23v z24 z24r l5 l5r _ hW) (fun z26 s25 hr => ?_)
        obtain ⟨s25v, z26r, hW⟩ := hr
        refine ir_s (pc' := 167) rfl rfl rfl rfl rfl rfl ?_
        refine ir_l (pc' := 168) rfl rfl rfl rfl rfl rfl ?_
        refine ir_l (pc' := 170) rfl rfl rfl rfl rfl rfl ?_
        refine ir_l (pc' := 172) rfl rfl rfl rfl rfl rfl ?_
        refine ir_l (pc' := 174) rfl rfl rfl rfl rfl rfl ?_
        refine ir_cVV (pc' := 177) rfl rfl rfl rfl rfl (Nat.le_of_ble_eq_true rfl) oo_X10_set vg_582 (w_set L ys (d + 6) s25 s25v l4 l4r l7 l7r z26 z26r _ hW) (fun s27 hr => ?_)
        obtain ⟨s27v, hW⟩ := hr
        refine ir_k (pc' := 178) (v := (0, 0)) rfl rfl rfl (fun _ => rfl) ?_
        refine ir_s (pc' := 180) rfl rfl rfl rfl rfl rfl ?_
        refine ir_w [(0, (2, ((582 : Nat) : Int))), (2, (0, l2)), (3, (0, l3)), (4, (0, l4)), (5, (0, l5)), (7, (0, l7)), (8, (0, z26)), (9, (0, 0))] ⟨rfl, rfl, rfl, rfl, rfl, rfl, rfl, rfl, trivial⟩ ?_
        obtain ⟨I9, r9, hI9, hB9⟩ := hW
        exact J180 l7 l7r z26 z26r I9 r9 hB9 _ 0 (zR_i (Or.inl rfl)) s27 s27v hI9 (Nat.lt_succ_self _)
  have J88 : ∀ (l1 : Int) (l1r : iR l1) (l2 : Int) (l2r : iR l2) (l3 : Int) (l3r : iR l3) (l4 : Int) (l4r : iR l4) (l5 : Int) (l5r : iR l5) (l6 : Int) (l6r : iR l6) (I88 : Int × im_S → Prop) (r88 : Int × im_S → Nat) (hB88 : ∀ a : Int × im_S, I88 a → W_share_88 (fun b => I88 b ∧ r88 b < r88 a) l1 l2 l3 l4 l5 l6 a.1 a.2 Q), ∀ n88 : Nat, ∀ (l7 : Int) (l7r : iR l7) (s : im_S) (hv : vI s), I88 (l7, s) → r88 (l7, s) < n88 → ir gG rm_P L ys (d + 7) rm_p_X10_share (88, [(0, (2, ((582 : Nat) : Int))), (1, (0, l1)), (2, (0, l2)), (3, (0, l3)), (4, (0, l4)), (5, (0, l5)), (6, (0, l6)), (7, (0, l7))], [], s) (fun r : im_Re => ∃ z, r.1 = some (0, z) ∧ (vI r.2 ∧ iR z ∧ Q z r.2)) := by
    intro l1 l1r l2 l2r l3 l3r l4 l4r l5 l5r l6 l6r I88 r88 hB88 n88
    induction n88 with
    | zero => intro l7 l7r s hv hI hr; exact absurd hr (Nat.not_lt_zero _)
    | succ n88 ih88 =>
      intro l7 l7r s hv hI hr88
      obtain ⟨t88, ht88⟩ : ∃ t88 : Int × im_S, t88 = (l7, s) := ⟨_, rfl⟩
      rw [← ht88] at hr88
      have hW : W_share_88 (fun b => I88 b ∧ r88 b < r88 t88) l1 l2 l3 l4 l5 l6 l7 s Q := by have z := hB88 (l7, s) hI; rw [ht88]; exact z
      unfold W_share_88 at hW
      obtain ⟨h29, hW⟩ := hW
      refine ir_l (pc' := 90) rfl rfl rfl rfl rfl rfl ?_
      refine ir_l (pc' := 91) rfl rfl rfl rfl rfl rfl ?_
      refine ir_vgr (pc' := 94) (c := 598) rfl rfl rfl rfl rfl hv ?_
      refine ir_l (pc' := 95) rfl rfl rfl rfl rfl rfl ?_
      refine ir_via (pc' := 96) rfl rfl vg_598 rfl (Nat.le_of_ble_eq_true rfl) hv rfl h29 (fun r30 => ?_)
      refine ir_c_gt (pt := 125) (pc' := 99) rfl rfl rfl (fun c31 => ?_) (fun c31 => ?_)
      · have hW := hW.1 c31
        obtain ⟨h32, h34, h36, hW⟩ := hW
        refine ir_l (pc' := 126) rfl rfl rfl rfl rfl rfl ?_
        refine ir_vgr (pc' := 129) (c := 598) rfl rfl rfl rfl rfl hv ?_
        refine ir_l (pc' := 130) rfl rfl rfl rfl rfl rfl ?_
        refine ir_via (pc' := 131) rfl rfl vg_598 rfl (Nat.le_of_ble_eq_true rfl) hv rfl h32 (fun r33 => ?_)
        refine ir_l (pc' := 132) rfl rfl rfl rfl rfl rfl ?_
        refine ir_vgr (pc' := 135) (c := 598) rfl rfl rfl rfl rfl hv ?_
        refine ir_l (pc' := 136) rfl rfl rfl rfl rfl rfl ?_
        refine ir_via (pc' := 137) rfl rfl vg_598 rfl (Nat.le_of_ble_eq_true rfl) hv rfl h34 (fun r35 => ?_)
        refine ir_sub (pc' := 138) rfl rfl h36.1 h36.2 ?_
        refine ir_s (pc' := 140) rfl rfl rfl rfl rfl rfl ?_
        refine ir_w [(0, (2, ((582 : Nat) : Int))), (2, (0, l2)), (3, (0, l3)), (4, (0, l4)), (5, (0, l5)), (7, (0, ((wga s 598 l1) - (wga s 598 l2))))] ⟨rfl, rfl, rfl, rfl, rfl, rfl, trivial⟩ ?_
        obtain ⟨I9, r9, hI9, hB9⟩ := hW
        exact J140 l2 l2r l3 l3r l4 l4r l5 l5r I9 r9 hB9 _ ((wga s 598 l1) - (wga s 598 l2)) h36 s hv hI9 (Nat.lt_succ_self _)
      · have hW := hW.2 c31
        refine ir_l (pc' := 100) rfl rfl rfl rfl rfl rfl ?_
        refine ir_l (pc' := 101) rfl rfl rfl rfl rfl rfl ?_
        refine ir_l (pc' := 103) rfl rfl rfl rfl rfl rfl ?_
        refine ir_l (pc' := 104) rfl rfl rfl rfl rfl rfl ?_
        refine ir_l (pc' := 105) rfl rfl rfl rfl rfl rfl ?_
        refine ir_l (pc' := 106) rfl rfl rfl rfl rfl rfl ?_
        refine ir_l (pc' := 108) rfl rfl rfl rfl rfl rfl ?_
        refine ir_cVI (pc' := 111) rfl rfl rfl rfl rfl (Nat.le_of_ble_eq_true rfl) oo_X10_at vg_582 (w_at L ys (d + 6) s hv l1 l1r l7 l7r _ hW) (fun z38 s37 hr => ?_)
        obtain ⟨s37v, z38r, hW⟩ := hr
        refine ir_l (pc' := 113) rfl rfl rfl rfl rfl rfl ?_
        refine ir_cVI (pc' := 116) rfl rfl rfl rfl rfl (Nat.le_of_ble_eq_true rfl) oo_X10_by vg_582 (w_by L ys (d + 5) s37 s37v z38 z38r l6 l6r _ hW) (fun z40 s39 hr => ?_)
        obtain ⟨s39v, z40r, hW⟩ := hr
        refine ir_cVV (pc' := 119) rfl rfl rfl rfl rfl (Nat.le_of_ble_eq_true rfl) oo_X10_set vg_582 (w_set L ys (d + 6) s39 s39v l3 l3r l7 l7r z40 z40r _ hW) (fun s41 hr => ?_)
        obtain ⟨s41v, hW⟩ := hr
        obtain ⟨h43, hW⟩ := hW
        refine ir_inc (pc' := 122) rfl rfl rfl rfl rfl h43.1 h43.2 ?_
        refine ir_goto (pc' := 88) rfl rfl ?_
        refine ir_w [(0, (2, ((582 : Nat) : Int))), (1, (0, l1)), (2, (0, l2)), (3, (0, l3)), (4, (0, l4)), (5, (0, l5)), (6, (0, l6)), (7, (0, (l7 + 1)))] ⟨rfl, rfl, rfl, rfl, rfl, rfl, rfl, rfl, trivial⟩ ?_
        exact ih88 (l7 + 1) h43 s41 s41v hW.1 (Nat.lt_of_lt_of_le hW.2 (Nat.le_of_lt_succ hr88))
  have J58 : ∀ (l1 : Int) (l1r : iR l1) (l2 : Int) (l2r : iR l2) (l3 : Int) (l3r : iR l3) (l4 : Int) (l4r : iR l4) (l5 : Int) (l5r : iR l5) (I58 : Int × Int × im_S → Prop) (r58 : Int × Int × im_S → Nat) (hB58 : ∀ a : Int × Int × im_S, I58 a → W_share_58 (fun b => I58 b ∧ r58 b < r58 a) l1 l2 l3 l4 l5 a.1 a.2.1 a.2.2 Q), ∀ n58 : Nat, ∀ (l6 : Int) (l6r : iR l6) (l7 : Int) (l7r : iR l7) (s : im_S) (hv : vI s), I58 (l6, l7, s) → r58 (l6, l7, s) < n58 → ir gG rm_P L ys (d + 7) rm_p_X10_share (58, [(0, (2, ((582 : Nat) : Int))), (1, (0, l1)), (2, (0, l2)), (3, (0, l3)), (4, (0, l4)), (5, (0, l5)), (6, (0, l6)), (7, (0, l7))], [], s) (fun r : im_Re => ∃ z, r.1 = some (0, z) ∧ (vI r.2 ∧ iR z ∧ Q z r.2)) := by
    intro l1 l1r l2 l2r l3 l3r l4 l4r l5 l5r I58 r58 hB58 n58
    induction n58 with
    | zero => intro l6 l6r l7 l7r s hv hI hr; exact absurd hr (Nat.not_lt_zero _)
    | succ n58 ih58 =>
      intro l6 l6r l7 l7r s hv hI hr58
      obtain ⟨t58, ht58⟩ : ∃ t58 : Int × Int × im_S, t58 = (l6, l7, s) := ⟨_, rfl⟩
      rw [← ht58] at hr58
      have hW : W_share_58 (fun b => I58 b ∧ r58 b < r58 t58) l1 l2 l3 l4 l5 l6 l7 s Q := by have z := hB58 (l6, l7, s) hI; rw [ht58]; exact z
      unfold W_share_58 at hW
      obtain ⟨h44, hW⟩ := hW
      refine ir_l (pc' := 60) rfl rfl rfl rfl rfl rfl ?_
      refine ir_l (pc' := 61) rfl rfl rfl rfl rfl rfl ?_
      refine ir_vgr (pc' := 64) (c := 598) rfl rfl rfl rfl rfl hv ?_
      refine ir_l (pc' := 65) rfl rfl rfl rfl rfl rfl ?_
      refine ir_via (pc' := 66) rfl rfl vg_598 rfl (Nat.le_of_ble_eq_true rfl) hv rfl h44 (fun r45 => ?_)
      refine ir_c_gt (pt := 85) (pc' := 69) rfl rfl rfl (fun c46 => ?_) (fun c46 => ?_)
      · have hW := hW.1 c46
        refine ir_k (pc' := 86) (v := (0, 0)) rfl rfl rfl (fun _ => rfl) ?_
        refine ir_s (pc' := 88) rfl rfl rfl rfl rfl rfl ?_
        refine ir_w [(0, (2, ((582 : Nat) : Int))), (1, (0, l1)), (2, (0, l2)), (3, (0, l3)), (4, (0, l4)), (5, (0, l5)), (6, (0, l6)), (7, (0, 0))] ⟨rfl, rfl, rfl, rfl, rfl, rfl, rfl, rfl, trivial⟩ ?_
        obtain ⟨I9, r9, hI9, hB9⟩ := hW
        exact J88 l1 l1r l2 l2r l3 l3r l4 l4r l5 l5r l6 l6r I9 r9 hB9 _ 0 (zR_i (Or.inl rfl)) s hv hI9 (Nat.lt_succ_self _)
      · have hW := hW.2 c46
        refine ir_l (pc' := 70) rfl rfl rfl rfl rfl rfl ?_
        refine ir_l (pc' := 72) rfl rfl rfl rfl rfl rfl ?_
        refine ir_l (pc' := 74) rfl rfl rfl rfl rfl rfl ?_
        refine ir_cVI (pc' := 77) rfl rfl rfl rfl rfl (Nat.le_of_ble_eq_true rfl) oo_X10_by vg_582 (w_by L ys (d + 5) s hv l6 l6r l5 l5r _ hW) (fun z48 s47 hr => ?_)
        obtain ⟨s47v, z48r, hW⟩ := hr
        obtain ⟨h49, hW⟩ := hW
        refine ir_s (pc' := 79) rfl rfl rfl rfl rfl rfl ?_
        refine ir_inc (pc' := 82) rfl rfl rfl rfl rfl h49.1 h49.2 ?_
        refine ir_goto (pc' := 58) rfl rfl ?_
        refine ir_w [(0, (2, ((582 : Nat) : Int))), (1, (0, l1)), (2, (0, l2)), (3, (0, l3)), (4, (0, l4)), (5, (0, l5)), (6, (0, z48)), (7, (0, (l7 + 1)))] ⟨rfl, rfl, rfl, rfl, rfl, rfl, rfl, rfl, trivial⟩ ?_
        exact ih58 z48 z48r (l7 + 1) h49 s47 s47v hW.1 (Nat.lt_of_lt_of_le hW.2 (Nat.le_of_lt_succ hr58))
  unfold W_share at hW
  obtain ⟨h50, hW⟩ := hW
  refine ir_l (pc' := 1) rfl rfl rfl rfl rfl rfl ?_
  refine ir_l (pc' := 2) rfl rfl rfl rfl rfl rfl ?_
  refine ir_vgr (pc' := 5) (c := 598) rfl rfl rfl rfl rfl hv ?_
  refine ir_l (pc' := 6) rfl rfl rfl rfl rfl rfl ?_
  refine ir_via (pc' := 7) rfl rfl vg_598 rfl (Nat.le_of_ble_eq_true rfl) hv rfl h50 (fun r51 => ?_)
  refine ir_cVI (pc' := 10) rfl rfl rfl rfl rfl (Nat.le_of_ble_eq_true rfl) oo_X10_newPolynomial vg_582 (w_newPolynomial L ys (d + 6) s hv (wga s 598 l1) r51 _ hW) (fun z53 s52 hr => ?_)
  obtain ⟨s52v, z53r, hW⟩ := hr
  obtain ⟨h54, h56, h58, hW⟩ := hW
  refine ir_s (pc' := 11) rfl rfl rfl rfl rfl rfl ?_
  refine ir_l (pc' := 12) rfl rfl rfl rfl rfl rfl ?_
  refine ir_l (pc' := 13) rfl rfl rfl rfl rfl rfl ?_
  refine ir_vgr (pc' := 16) (c := 598) rfl rfl rfl rfl rfl s52v ?_
  refine ir_l (pc' := 17) rfl rfl rfl rfl rfl rfl ?_
  refine ir_via (pc' := 18) rfl rfl vg_598 rfl (Nat.le_of_ble_eq_true rfl) s52v rfl h54 (fun r55 => ?_)
  refine ir_l (pc' := 19) rfl rfl rfl rfl rfl rfl ?_
  refine ir_vgr (pc' := 22) (c := 598) rfl rfl rfl rfl rfl s52v ?_
  refine ir_l (pc' := 23) rfl rfl rfl rfl rfl rfl ?_
  refine ir_via (pc' := 24) rfl rfl vg_598 rfl (Nat.le_of_ble_eq_true rfl) s52v rfl h56 (fun r57 => ?_)
  refine ir_sub (pc' := 25) rfl rfl h58.1 h58.2 ?_
  refine ir_cVI (pc' := 28) rfl rfl rfl rfl rfl (Nat.le_of_ble_eq_true rfl) oo_X10_newPolynomial vg_582 (w_newPolynomial L ys (d + 6) s52 s52v ((wga s52 598 l1) - (wga s52 598 l2)) h58 _ hW) (fun z60 s59 hr => ?_)
  obtain ⟨s59v, z60r, hW⟩ := hr
  obtain ⟨h61, hW⟩ := hW
  refine ir_s (pc' := 30) rfl rfl rfl rfl rfl rfl ?_
  refine ir_l (pc' := 31) rfl rfl rfl rfl rfl rfl ?_
  refine ir_l (pc' := 32) rfl rfl rfl rfl rfl rfl ?_
  refine ir_l (pc' := 33) rfl rfl rfl rfl rfl rfl ?_
  refine ir_vgr (pc' := 36) (c := 598) rfl rfl rfl rfl rfl s59v ?_
  refine ir_l (pc' := 37) rfl rfl rfl rfl rfl rfl ?_
  refine ir_via (pc' := 38) rfl rfl vg_598 rfl (Nat.le_of_ble_eq_true rfl) s59v rfl h61 (fun r62 => ?_)
  refine ir_cVI (pc' := 41) rfl rfl rfl rfl rfl (Nat.le_of_ble_eq_true rfl) oo_X10_at vg_582 (w_at L ys (d + 6) s59 s59v l2 l2r (wga s59 598 l2) r62 _ hW) (fun z64 s63 hr => ?_)
  obtain ⟨s63v, z64r, hW⟩ := hr
  refine ir_s (pc' := 43) rfl rfl rfl rfl rfl rfl ?_
  refine ir_l (pc' := 44) rfl rfl rfl rfl rfl rfl ?_
  refine ir_k (pc' := 45) (v := (1, 1)) rfl rfl rfl (fun _ => rfl) ?_
  refine ir_cVI (pc' := 48) rfl rfl rfl rfl rfl (Nat.le_of_ble_eq_true rfl) oo_X10_whole vg_582 (w_whole L ys (d + 6) s63 s63v 1 (⟨by decide, by decide⟩ : lR 1) _ hW) (fun z66 s65 hr => ?_)
  obtain ⟨s65v, z66r, hW⟩ := hr
  obtain ⟨h67, hW⟩ := hW
  refine ir_s (pc' := 50) rfl rfl rfl rfl rfl rfl ?_
  refine ir_l (pc' := 51) rfl rfl rfl rfl rfl rfl ?_
  refine ir_vgr (pc' := 54) (c := 598) rfl rfl rfl rfl rfl s65v ?_
  refine ir_l (pc' := 55) rfl rfl rfl rfl rfl rfl ?_
  refine ir_via (pc' := 56) rfl rfl vg_598 rfl (Nat.le_of_ble_eq_true rfl) s65v rfl h67 (fun r68 => ?_)
  refine ir_s (pc' := 58) rfl rfl rfl rfl rfl rfl ?_
  refine ir_w [(0, (2, ((582 : Nat) : Int))), (1, (0, l1)), (2, (0, l2)), (3, (0, z53)), (4, (0, z60)), (5, (0, z64)), (6, (0, z66)), (7, (0, (wga s65 598 l2)))] ⟨rfl, rfl, rfl, rfl, rfl, rfl, rfl, rfl, trivial⟩ ?_
  obtain ⟨I9, r9, hI9, hB9⟩ := hW
  exact J58 l1 l1r l2 l2r z53 z53r z60 z60r z64 z64r I9 r9 hB9 _ z66 z66r (wga s65 598 l2) r68 s65 s65v hI9 (Nat.lt_succ_self _)
def W_restRoots_151 (K92 : Int × im_S → Prop) (l3 : Int) (l4 : Int) (s : im_S) (Q : im_S → Prop) : Prop := ((iR (l4 + 1)) ∧ (K92 ((l4 + 1), s)))
def W_restRoots_92 (K92 : Int × im_S → Prop) (l3 : Int) (l4 : Int) (s : im_S) (Q : im_S → Prop) : Prop := (((wgf s 41) ≤ l4 → (Q s)) ∧ (¬ ((wgf s 41) ≤ l4) → ((0 ≤ l4 ∧ l4 < 90) ∧ ((¬ ((wga s 609 l4) = 0) → (W_restRoots_151 K92 l3 l4 s Q)) ∧ ((wga s 609 l4) = 0 → ((0 ≤ l4 ∧ l4 < 90) ∧ (∀ s9, s9 = wpa s 610 l4 l3 → ((0 ≤ l4 ∧ l4 < 90) ∧ (W_powerOfTwo (wga s9 612 l4) s9 (fun z14 s13 => (W_signAt2 l3 (wga s9 611 l4) z14 s13 (fun z16 s15 => ((0 ≤ l4 ∧ l4 < 90) ∧ (∀ s18, s18 = wpa s15 613 l4 z16 → (W_restRoots_151 K92 l3 l4 s18 Q)))))))))))))))
def W_restRoots_83 (K10 : Int × Int × im_S → Prop) (l2 : Int) (l3 : Int) (l4 : Int) (s : im_S) (Q : im_S → Prop) : Prop := ((iR (l4 + 1)) ∧ (K10 (l3, (l4 + 1), s)))
def W_restRoots_10 (K10 : Int × Int × im_S → Prop) (l2 : Int) (l3 : Int) (l4 : Int) (s : im_S) (Q : im_S → Prop) : Prop := (((wgf s 41) ≤ l4 → (wloop (fun (K : Int × im_S → Prop) (a : Int × im_S) => W_restRoots_92 K l3 a.1 a.2 Q) (l2, s))) ∧ (¬ ((wgf s 41) ≤ l4) → ((0 ≤ l4 ∧ l4 < 90) ∧ (((wga s 609 l4) ≤ 0 → (W_restRoots_83 K10 l2 l3 l4 s Q)) ∧ (¬ ((wga s 609 l4) ≤ 0) → (W_newPolynomial 1 s (fun z27 s26 => ((0 ≤ l4 ∧ l4 < 90) ∧ (W_whole (wga s26 609 l4) s26 (fun z31 s30 => (W_set z27 1 z31 s30 (fun s32 => ((0 ≤ l4 ∧ l4 < 90) ∧ (lR (-(wga s32 608 l4))) ∧ (W_whole (-(wga s32 608 l4)) s32 (fun z38 s37 => (W_set z27 0 z38 s37 (fun s39 => (W_share l3 z27 s39 (fun z42 s41 => (W_restRoots_83 K10 l2 z42 l4 s41 Q))))))))))))))))))))
def W_restRoots (l1 : Int) (l2 : Int) (s : im_S) (Q : im_S → Prop) : Prop := ((0 ≤ l1 ∧ l1 < 200) ∧ (wloop (fun (K : Int × Int × im_S → Prop) (a : Int × Int × im_S) => W_restRoots_10 K l2 a.1 a.2.1 a.2.2 Q) ((wga s 602 l1), l2, s)))
set_option maxRecDepth 16384 in
theorem w_restRoots (L : Nat) (ys : Nat → Int32) (d : Nat) (s : im_S) (hv : vI s) (l1 : Int) (l1r : iR l1) (l2 : Int) (l2r : iR l2) (Q : im_S → Prop) (hW : W_restRoots l1 l2 s Q) : icV gG rm_P L ys (d + 9) 88 [(2, ((582 : Nat) : Int)), (0, l1), (0, l2)] s (fun s9 => vI s9 ∧ Q s9) := by
  refine ic_startM (M := rm_p_X10_restRoots) om_X10_restRoots (Nat.le_of_ble_eq_true rfl) ?_
  refine ir_w [(0, (2, ((582 : Nat) : Int))), (1, (0, l1)), (2, (0, l2))] ⟨rfl, rfl, rfl, trivial⟩ ?_
  have J92 : ∀ (l3 : Int) (l3r : iR l3) (I92 : Int × im_S → Prop) (r92 : Int × im_S → Nat) (hB92 : ∀ a : Int × im_S, I92 a → W_restRoots_92 (fun b => I92 b ∧ r92 b < r92 a) l3 a.1 a.2 Q), ∀ n92 : Nat, ∀ (l4 : Int) (l4r : iR l4) (s : im_S) (hv : vI s), I92 (l4, s) → r92 (l4, s) < n92 → ir gG rm_P L ys (d + 8) rm_p_X10_restRoots (92, [(0, (2, ((582 : Nat) : Int))), (3, (0, l3)), (4, (0, l4))], [], s) (fun r : im_Re => r.1 = none ∧ (vI r.2 ∧ Q r.2)) := by
    intro l3 l3r I92 r92 hB92 n92
    induction n92 with
    | zero => intro l4 l4r s hv hI hr; exact absurd hr (Nat.not_lt_zero _)
    | succ n92 ih92 =>
      intro l4 l4r s hv hI hr92
      obtain ⟨t92, ht92⟩ : ∃ t92 : Int × im_S, t92 = (l4, s) := ⟨_, rfl⟩
      rw [← ht92] at hr92
      have hW : W_restRoots_92 (fun b => I92 b ∧ r92 b < r92 t92) l3 l4 s Q := by have z := hB92 (l4, s) hI; rw [ht92]; exact z
      have J151 : ∀ (l4 : Int) (l4r : iR l4) (s : im_S) (hv : vI s), W_restRoots_151 (fun b => I92 b ∧ r92 b < r92 t92) l3 l4 s Q → ir gG rm_P L ys (d + 8) rm_p_X10_restRoots (151, [(0, (2, ((582 : Nat) : Int))), (3, (0, l3)), (4, (0, l4))], [], s) (fun r : im_Re => r.1 = none ∧ (vI r.2 ∧ Q r.2)) := by
        intro l4 l4r s hv hW
        unfold W_restRoots_151 at hW
        obtain ⟨h1, hW⟩ := hW
        refine ir_inc (pc' := 154) rfl rfl rfl rfl rfl h1.1 h1.2 ?_
        refine ir_goto (pc' := 92) rfl rfl ?_
        refine ir_w [(0, (2, ((582 : Nat) : Int))), (3, (0, l3)), (4, (0, (l4 + 1)))] ⟨rfl, rfl, rfl, trivial⟩ ?_
        exact ih92 (l4 + 1) h1 s hv hW.1 (Nat.lt_of_lt_of_le hW.2 (Nat.le_of_lt_succ hr92))
      unfold W_restRoots_92 at hW
      refine ir_l (pc' := 94) rfl rfl rfl rfl rfl rfl ?_
      refine ir_l (pc' := 95) rfl rfl rfl rfl rfl rfl ?_
      refine ir_vgi (pc' := 98) rfl rfl rfl rfl rfl hv (fun r2 => ?_)
      refine ir_c_ge (pt := 157) (pc' := 101) rfl rfl rfl (fun c3 => ?_) (fun c3 => ?_)
      · have hW := hW.1 c3
        exact ir_vret rfl rfl ⟨rfl, hv, hW⟩
      · have hW := hW.2 c3
        obtain ⟨h4, hW⟩ := hW
        refine ir_l (pc' := 102) rfl rfl rfl rfl rfl rfl ?_
        refine ir_vgr (pc' := 105) (c := 609) rfl rfl rfl rfl rfl hv ?_
        refine ir_l (pc' := 107) rfl rfl rfl rfl rfl rfl ?_
        refine ir_vla (pc' := 108) rfl rfl vg_609 rfl (Nat.le_of_ble_eq_true rfl) hv rfl h4 (fun r5 => ?_)
        refine ir_k (pc' := 109) (v := (1, 0)) rfl rfl rfl (fun _ => rfl) ?_
        refine ir_lcmp (pc' := 110) rfl rfl r5.1 r5.2 (⟨by decide, by decide⟩ : lR 0).1 (⟨by decide, by decide⟩ : lR 0).2 (fun z6 z6c => ?_)
        refine ir_z_ne (pt := 151) (pc' := 113) rfl rfl rfl (fun c7 => ?_) (fun c7 => ?_)
        · have c7 : ¬ ((wga s 609 l4) = 0) := by omega
          have hW := hW.1 c7
          refine ir_w [(0, (2, ((582 : Nat) : Int))), (3, (0, l3)), (4, (0, l4))] ⟨rfl, rfl, rfl, trivial⟩ ?_
          exact J151 l4 l4r s hv hW
        · have c7 : (wga s 609 l4) = 0 := by omega
          have hW := hW.2 c7
          obtain ⟨h8, hW⟩ := hW
          refine ir_l (pc' := 114) rfl rfl rfl rfl rfl rfl ?_
          refine ir_vgr (pc' := 117) (c := 610) rfl rfl rfl rfl rfl hv ?_
          refine ir_l (pc' := 119) rfl rfl rfl rfl rfl rfl ?_
          refine ir_l (pc' := 120) rfl rfl rfl rfl rfl rfl ?_
          refine ir_vis (pc' := 121) rfl rfl vg_610 rfl (Nat.le_of_ble_eq_true rfl) hv rfl h8 l3r (fun s9 s9e s9v => ?_)
          have hW := hW s9 s9e
          obtain ⟨h10, hW⟩ := hW
          refine ir_l (pc' := 122) rfl rfl rfl rfl rfl rfl ?_
          refine ir_vgr (pc' := 125) (c := 613) rfl rfl rfl rfl rfl s9v ?_
          refine ir_l (pc' := 127) rfl rfl rfl rfl rfl rfl ?_
          refine ir_l (pc' := 128) rfl rfl rfl rfl rfl rfl ?_
          refine ir_l (pc' := 129) rfl rfl rfl rfl rfl rfl ?_
          refine ir_l (pc' := 130) rfl rfl rfl rfl rfl rfl ?_
          refine ir_vgr (pc' := 133) (c := 611) rfl rfl rfl rfl rfl s9v ?_
          refine ir_l (pc' := 135) rfl rfl rfl rfl rfl rfl ?_
          refine ir_via (pc' := 136) rfl rfl vg_611 rfl (Nat.le_of_ble_eq_true rfl) s9v rfl h10 (fun r11 => ?_)
          refine ir_l (pc' := 137) rfl rfl rfl rfl rfl rfl ?_
          refine ir_l (pc' := 138) rfl rfl rfl rfl rfl rfl ?_
          refine ir_vgr (pc' := 141) (c := 612) rfl rfl rfl rfl rfl s9v ?_
          refine ir_l (pc' := 143) rfl rfl rfl rfl rfl rfl ?_
          refine ir_via (pc' := 144) rfl rfl vg_612 rfl (Nat.le_of_ble_eq_true rfl) s9v rfl h10 (fun r12 => ?_)
          refine ir_cVI (pc' := 147) rfl rfl rfl rfl rfl (Nat.le_of_ble_eq_true rfl) oo_X10_powerOfTwo vg_582 (w_powerOfTwo L ys (d + 4) s9 s9v (wga s9 612 l4) r12 _ hW) (fun z14 s13 hr => ?_)
          obtain ⟨s13v, z14r, hW⟩ := hr
          refine ir_cVI (pc' := 150) rfl rfl rfl rfl rfl (Nat.le_of_ble_eq_true rfl) oo_X10_signAt2 vg_582 (w_signAt2 L ys (d + 3) s13 s13v l3 l3r (wga s9 611 l4) r11 z14 z14r _ hW) (fun z16 s15 hr => ?_)
          obtain ⟨s15v, z16r, hW⟩ := hr
          obtain ⟨h17, hW⟩ := hW
          refine ir_vis (pc' := 151) rfl rfl vg_613 rfl (Nat.le_of_ble_eq_true rfl) s15v rfl h17 z16r (fun s18 s18e s18v => ?_)
          have hW := hW s18 s18e
          refine ir_w [(0, (2, ((582 : Nat) : Int))), (3, (0, l3)), (4, (0, l4))] ⟨rfl, rfl, rfl, trivial⟩ ?_
          exact J151 l4 l4r s18 s18v hW
  have J10 : ∀ (l2 : Int) (l2r : iR l2) (I10 : Int × Int × im_S → Prop) (r10 : Int × Int × im_S → Nat) (hB10 : ∀ a : Int × Int × im_S, I10 a → W_restRoots_10 (fun b => I10 b ∧ r10 b < r10 a) l2 a.1 a.2.1 a.2.2 Q), ∀ n10 : Nat, ∀ (l3 : Int) (l3r : iR l3) (l4 : Int) (l4r : iR l4) (s : im_S) (hv : vI s), I10 (l3, l4, s) → r10 (l3, l4, s) < n10 → ir gG rm_P L ys (d + 8) rm_p_X10_restRoots (10, [(0, (2, ((582 : Nat) : Int))), (2, (0, l2)), (3, (0, l3)), (4, (0, l4))], [], s) (fun r : im_Re => r.1 = none ∧ (vI r.2 ∧ Q r.2)) := by
    intro l2 l2r I10 r10 hB10 n10
    induction n10 with
    | zero => intro l3 l3r l4 l4r s hv hI hr; exact absurd hr (Nat.not_lt_zero _)
    | succ n10 ih10 =>
      intro l3 l3r l4 l4r s hv hI hr10
      obtain ⟨t10, ht10⟩ : ∃ t10 : Int × Int × im_S, t10 = (l3, l4, s) := ⟨_, rfl⟩
      rw [← ht10] at hr10
      have hW : W_restRoots_10 (fun b => I10 b ∧ r10 b < r10 t10) l2 l3 l4 s Q := by have z := hB10 (l3, l4, s) hI; rw [ht10]; exact z
      have J83 : ∀ (l3 : Int) (l3r : iR l3) (l4 : Int) (l4r : iR l4) (s : im_S) (hv : vI s), W_restRoots_83 (fun b => I10 b ∧ r10 b < r10 t10) l2 l3 l4 s Q → ir gG rm_P L ys (d + 8) rm_p_X10_restRoots (83, [(0, (2, ((582 : Nat) : Int))), (2, (0, l2)), (3, (0, l3)), (4, (0, l4))], [], s) (fun r : im_Re => r.1 = none ∧ (vI r.2 ∧ Q r.2)) := by
        intro l3 l3r l4 l4r s hv hW
        unfold W_restRoots_83 at hW
        obtain ⟨h19, hW⟩ := hW
        refine ir_inc (pc' := 86) rfl rfl rfl rfl rfl h19.1 h19.2 ?_
        refine ir_goto (pc' := 10) rfl rfl ?_
        refine ir_w [(0, (2, ((582 : Nat) : Int))), (2, (0, l2)), (3, (0, l3)), (4, (0, (l4 + 1)))] ⟨rfl, rfl, rfl, rfl, trivial⟩ ?_
        exact ih10 l3 l3r (l4 + 1) h19 s hv hW.1 (Nat.lt_of_lt_of_le hW.2 (Nat.le_of_lt_succ hr10))
      unfold W_restRoots_10 at hW
      refine ir_l (pc' := 12) rfl rfl rfl rfl rfl rfl ?_
      refine ir_l (pc' := 13) rfl rfl rfl rfl rfl rfl ?_
      refine ir_vgi (pc' := 16) rfl rfl rfl rfl rfl hv (fun r20 => ?_)
      refine ir_c_ge (pt := 89) (pc' := 19) rfl rfl rfl (fun c21 => ?_) (fun c21 => ?_)
      · have hW := hW.1 c21
        refine ir_l (pc' := 90) rfl rfl rfl rfl rfl rfl ?_
        refine ir_s (pc' := 92) rfl rfl rfl rfl rfl rfl ?_
        refine ir_w [(0, (2, ((582 : Nat) : Int))), (3, (0, l3)), (4, (0, l2))] ⟨rfl, rfl, rfl, trivial⟩ ?_
        obtain ⟨I9, r9, hI9, hB9⟩ := hW
        exact J92 l3 l3r I9 r9 hB9 _ l2 l2r s hv hI9 (Nat.lt_succ_self _)
      · have hW := hW.2 c21
        obtain ⟨h22, hW⟩ := hW
        refine ir_l (pc' := 20) rfl rfl rfl rfl rfl rfl ?_
        refine ir_vgr (pc' := 23) (c := 609) rfl rfl rfl rfl rfl hv ?_
        refine ir_l (pc' := 25) rfl rfl rfl rfl rfl rfl ?_
        refine ir_vla (pc' := 26) rfl rfl vg_609 rfl (Nat.le_of_ble_eq_true rfl) hv rfl h22 (fun r23 => ?_)
        refine ir_k (pc' := 27) (v := (1, 0)) rfl rfl rfl (fun _ => rfl) ?_
        refine ir_lcmp (pc' := 28) rfl rfl r23.1 r23.2 (⟨by decide, by decide⟩ : lR 0).1 (⟨by decide, by decide⟩ : lR 0).2 (fun z24 z24c => ?_)
        refine ir_z_le (pt := 83) (pc' := 31) rfl rfl rfl (fun c25 => ?_) (fun c25 => ?_)
        · have c25 : (wga s 609 l4) ≤ 0 := by omega
          have hW := hW.1 c25
          refine ir_w [(0, (2, ((582 : Nat) : Int))), (2, (0, l2)), (3, (0, l3)), (4, (0, l4))] ⟨rfl, rfl, rfl, rfl, trivial⟩ ?_
          exact J83 l3 l3r l4 l4r s hv hW
        · have c25 : ¬ ((wga s 609 l4) ≤ 0) := by omega
          have hW := hW.2 c25
          refine ir_l (pc' := 32) rfl rfl rfl rfl rfl rfl ?_
          refine ir_k (pc' := 33) (v := (0, 1)) rfl rfl rfl (fun _ => rfl) ?_
          refine ir_cVI (pc' := 36) rfl rfl rfl rfl rfl (Nat.le_of_ble_eq_true rfl) oo_X10_newPolynomial vg_582 (w_newPolynomial L ys (d + 7) s hv 1 (zR_i (Or.inr rfl)) _ hW) (fun z27 s26 hr => ?_)
          obtain ⟨s26v, z27r, hW⟩ := hr
          obtain ⟨h28, hW⟩ := hW
          refine ir_s (pc' := 38) rfl rfl rfl rfl rfl rfl ?_
          refine ir_l (pc' := 39) rfl rfl rfl rfl rfl rfl ?_
          refine ir_l (pc' := 41) rfl rfl rfl rfl rfl rfl ?_
          refine ir_k (pc' := 42) (v := (0, 1)) rfl rfl rfl (fun _ => rfl) ?_
          refine ir_l (pc' := 43) rfl rfl rfl rfl rfl rfl ?_
          refine ir_l (pc' := 44) rfl rfl rfl rfl rfl rfl ?_
          refine ir_vgr (pc' := 47) (c := 609) rfl rfl rfl rfl rfl s26v ?_
          refine ir_l (pc' := 49) rfl rfl rfl rfl rfl rfl ?_
          refine ir_vla (pc' := 50) rfl rfl vg_609 rfl (Nat.le_of_ble_eq_true rfl) s26v rfl h28 (fun r29 => ?_)
          refine ir_cVI (pc' := 53) rfl rfl rfl rfl rfl (Nat.le_of_ble_eq_true rfl) oo_X10_whole vg_582 (w_whole L ys (d + 7) s26 s26v (wga s26 609 l4) r29 _ hW) (fun z31 s30 hr => ?_)
          obtain ⟨s30v, z31r, hW⟩ := hr
          refine ir_cVV (pc' := 56) rfl rfl rfl rfl rfl (Nat.le_of_ble_eq_true rfl) oo_X10_set vg_582 (w_set L ys (d + 7) s30 s30v z27 z27r 1 (zR_i (Or.inr rfl)) z31 z31r _ hW) (fun s32 hr => ?_)
          obtain ⟨s32v, hW⟩ := hr
          obtain ⟨h34, h36, hW⟩ := hW
          refine ir_l (pc' := 57) rfl rfl rfl rfl rfl rfl ?_
          refine ir_l (pc' := 59) rfl rfl rfl rfl rfl rfl ?_
          refine ir_k (pc' := 60) (v := (0, 0)) rfl rfl rfl (fun _ => rfl) ?_
          refine ir_l (pc' := 61) rfl rfl rfl rfl rfl rfl ?_
          refine ir_l (pc' := 62) rfl rfl rfl rfl rfl rfl ?_
          refine ir_vgr (pc' := 65) (c := 608) rfl rfl rfl rfl rfl s32v ?_
          refine ir_l (pc' := 67) rfl rfl rfl rfl rfl rfl ?_
          refine ir_vla (pc' := 68) rfl rfl vg_608 rfl (Nat.le_of_ble_eq_true rfl) s32v rfl h34 (fun r35 => ?_)
          refine ir_lneg (pc' := 69) rfl rfl (w_ng1 h36) r35.2 ?_
          refine ir_cVI (pc' := 72) rfl rfl rfl rfl rfl (Nat.le_of_ble_eq_true rfl) oo_X10_whole vg_582 (w_whole L ys (d + 7) s32 s32v (-(wga s32 608 l4)) h36 _ hW) (fun z38 s37 hr => ?_)
          obtain ⟨s37v, z38r, hW⟩ := hr
          refine ir_cVV (pc' := 75) rfl rfl rfl rfl rfl (Nat.le_of_ble_eq_true rfl) oo_X10_set vg_582 (w_set L ys (d + 7) s37 s37v z27 z27r 0 (zR_i (Or.inl rfl)) z38 z38r _ hW) (fun s39 hr => ?_)
          obtain ⟨s39v, hW⟩ := hr
          refine ir_l (pc' := 76) rfl rfl rfl rfl rfl rfl ?_
          refine ir_l (pc' := 77) rfl rfl rfl rfl rfl rfl ?_
          refine ir_l (pc' := 79) rfl rfl rfl rfl rfl rfl ?_
          refine ir_cVI (pc' := 82) rfl rfl rfl rfl rfl (Nat.le_of_ble_eq_true rfl) oo_X10_share vg_582 (w_share L ys d s39 s39v l3 l3r z27 z27r _ hW) (fun z42 s41 hr => ?_)
          obtain ⟨s41v, z42r, hW⟩ := hr
          refine ir_s (pc' := 83) rfl rfl rfl rfl rfl rfl ?_
          refine ir_w [(0, (2, ((582 : Nat) : Int))), (2, (0, l2)), (3, (0, z42)), (4, (0, l4))] ⟨rfl, rfl, rfl, rfl, trivial⟩ ?_
          exact J83 z42 z42r l4 l4r s41 s41v hW
  unfold W_restRoots at hW
  obtain ⟨h43, hW⟩ := hW
  refine ir_l (pc' := 1) rfl rfl rfl rfl rfl rfl ?_
  refine ir_vgr (pc' := 4) (c := 602) rfl rfl rfl rfl rfl hv ?_
  refine ir_l (pc' := 5) rfl rfl rfl rfl rfl rfl ?_
  refine ir_via (pc' := 6) rfl rfl vg_602 rfl (Nat.le_of_ble_eq_true rfl) hv rfl h43 (fun r44 => ?_)
  refine ir_s (pc' := 7) rfl rfl rfl rfl rfl rfl ?_
  refine ir_l (pc' := 8) rfl rfl rfl rfl rfl rfl ?_
  refine ir_s (pc' := 10) rfl rfl rfl rfl rfl rfl ?_
  refine ir_w [(0, (2, ((582 : Nat) : Int))), (2, (0, l2)), (3, (0, (wga s 602 l1))), (4, (0, l2))] ⟨rfl, rfl, rfl, rfl, trivial⟩ ?_
  obtain ⟨I9, r9, hI9, hB9⟩ := hW
  exact J10 l2 l2r I9 r9 hB9 _ (wga s 602 l1) r44 l2 l2r s hv hI9 (Nat.lt_succ_self _)
