/-! THE REFERENCE LIFTED, by program -/
def W_times_39 (k0 : Int) (s : im_S) (Q : Int → im_S → Prop) : Prop := (Q k0 s)
def W_times_16 (s : im_S) (Q : Int → im_S → Prop) : Prop := (W_times_39 (-1) s Q)
def W_times (l1 : Int) (l2 : Int) (s : im_S) (Q : Int → im_S → Prop) : Prop := (W_isRoot l1 s (fun z2 s1 => ((z2 = 0 → (W_times_16 s1 Q)) ∧ (¬ (z2 = 0) → (W_isAtom l2 s1 (fun z5 s4 => ((¬ (z5 = 0) → (W_degreeOf l2 s4 (fun z8 s7 => ((0 ≤ z8 → (W_timesAt l1 l2 s7 (fun z11 s10 => (W_times_39 z11 s10 Q)))) ∧ (¬ (0 ≤ z8) → (W_times_39 (-2) s7 Q)))))) ∧ (z5 = 0 → (W_times_16 s4 Q)))))))))
set_option maxRecDepth 16384 in
theorem w_times (L : Nat) (ys : Nat → Int32) (d : Nat) (s : im_S) (hv : vI s) (l1 : Int) (l1r : iR l1) (l2 : Int) (l2r : iR l2) (Q : Int → im_S → Prop) (hW : W_times l1 l2 s Q) : icI gG rm_P L ys 0 (d + 2) 101 [(2, ((582 : Nat) : Int)), (0, l1), (0, l2)] s (fun z9 s9 => vI s9 ∧ iR z9 ∧ Q z9 s9) := by
  refine ic_startM (M := rm_p_X10_times) om_X10_times (Nat.le_of_ble_eq_true rfl) ?_
  refine ir_w [(0, (2, ((582 : Nat) : Int))), (1, (0, l1)), (2, (0, l2))] ⟨rfl, rfl, rfl, trivial⟩ ?_
  have J39 : ∀ (k0 : Int) (k0r : iR k0) (s : im_S) (hv : vI s), W_times_39 k0 s Q → ir gG rm_P L ys (d + 1) rm_p_X10_times (39, [], [(0, k0)], s) (fun r : im_Re => ∃ z, r.1 = some (0, z) ∧ (vI r.2 ∧ iR z ∧ Q z r.2)) := by
    intro k0 k0r s hv hW
    unfold W_times_39 at hW
    exact ir_iret rfl rfl ⟨_, rfl, hv, k0r, hW⟩
  have J16 : ∀ (s : im_S) (hv : vI s), W_times_16 s Q → ir gG rm_P L ys (d + 1) rm_p_X10_times (16, [], [], s) (fun r : im_Re => ∃ z, r.1 = some (0, z) ∧ (vI r.2 ∧ iR z ∧ Q z r.2)) := by
    intro s hv hW
    unfold W_times_16 at hW
    refine ir_k (pc' := 17) (v := (0, (-1))) rfl rfl rfl (fun _ => rfl) ?_
    refine ir_goto (pc' := 39) rfl rfl ?_
    refine ir_w [] trivial ?_
    exact J39 (-1) (⟨by decide, by decide⟩ : iR (-1)) s hv hW
  unfold W_times at hW
  refine ir_l (pc' := 1) rfl rfl rfl rfl rfl rfl ?_
  refine ir_l (pc' := 2) rfl rfl rfl rfl rfl rfl ?_
  refine ir_cVI (pc' := 5) rfl rfl rfl rfl rfl (Nat.le_of_ble_eq_true rfl) oo_X10_isRoot vg_582 (w_isRoot L ys d s hv l1 l1r _ hW) (fun z2 s1 hr => ?_)
  obtain ⟨s1v, z2r, hW⟩ := hr
  refine ir_z_eq (pt := 16) (pc' := 8) rfl rfl rfl (fun c3 => ?_) (fun c3 => ?_)
  · have hW := hW.1 c3
    refine ir_w [] trivial ?_
    exact J16 s1 s1v hW
  · have hW := hW.2 c3
    refine ir_l (pc' := 9) rfl rfl rfl rfl rfl rfl ?_
    refine ir_l (pc' := 10) rfl rfl rfl rfl rfl rfl ?_
    refine ir_cVI (pc' := 13) rfl rfl rfl rfl rfl (Nat.le_of_ble_eq_true rfl) oo_X10_isAtom vg_582 (w_isAtom L ys d s1 s1v l2 l2r _ hW) (fun z5 s4 hr => ?_)
    obtain ⟨s4v, z5r, hW⟩ := hr
    refine ir_z_ne (pt := 20) (pc' := 16) rfl rfl rfl (fun c6 => ?_) (fun c6 => ?_)
    · have hW := hW.1 c6
      refine ir_l (pc' := 21) rfl rfl rfl rfl rfl rfl ?_
      refine ir_l (pc' := 22) rfl rfl rfl rfl rfl rfl ?_
      refine ir_cVI (pc' := 25) rfl rfl rfl rfl rfl (Nat.le_of_ble_eq_true rfl) oo_X10_degreeOf vg_582 (w_degreeOf L ys d s4 s4v l2 l2r _ hW) (fun z8 s7 hr => ?_)
      obtain ⟨s7v, z8r, hW⟩ := hr
      refine ir_z_ge (pt := 33) (pc' := 28) rfl rfl rfl (fun c9 => ?_) (fun c9 => ?_)
      · have hW := hW.1 c9
        refine ir_l (pc' := 34) rfl rfl rfl rfl rfl rfl ?_
        refine ir_l (pc' := 35) rfl rfl rfl rfl rfl rfl ?_
        refine ir_l (pc' := 36) rfl rfl rfl rfl rfl rfl ?_
        refine ir_cVI (pc' := 39) rfl rfl rfl rfl rfl (Nat.le_of_ble_eq_true rfl) oo_X10_timesAt vg_582 (w_timesAt L ys d s7 s7v l1 l1r l2 l2r _ hW) (fun z11 s10 hr => ?_)
        obtain ⟨s10v, z11r, hW⟩ := hr
        refine ir_w [] trivial ?_
        exact J39 z11 z11r s10 s10v hW
      · have hW := hW.2 c9
        refine ir_k (pc' := 30) (v := (0, (-2))) rfl rfl rfl (fun _ => rfl) ?_
        refine ir_goto (pc' := 39) rfl rfl ?_
        refine ir_w [] trivial ?_
        exact J39 (-2) (⟨by decide, by decide⟩ : iR (-2)) s7 s7v hW
    · have hW := hW.2 c6
      refine ir_w [] trivial ?_
      exact J16 s4 s4v hW
def W_type_17 (s : im_S) (Q : Int → im_S → Prop) : Prop := (Q (-1) s)
def W_type (l1 : Int) (s : im_S) (Q : Int → im_S → Prop) : Prop := (W_isSign l1 s (fun z2 s1 => ((z2 = 0 → (W_type_17 s1 Q)) ∧ (¬ (z2 = 0) → ((¬ ((wgf s1 1) = 400) → ((0 ≤ (wgf s1 1) ∧ (wgf s1 1) < 400) ∧ (∀ s8, s8 = wpa s1 583 (wgf s1 1) l1 → ((iR ((wgf s8 1) + 1)) ∧ (∀ s11, s11 = wpf s8 1 ((wgf s8 1) + 1) → (Q (wgf s11 1) s11)))))) ∧ ((wgf s1 1) = 400 → (W_type_17 s1 Q)))))))
set_option maxRecDepth 16384 in
theorem w_type (L : Nat) (ys : Nat → Int32) (d : Nat) (s : im_S) (hv : vI s) (l1 : Int) (l1r : iR l1) (Q : Int → im_S → Prop) (hW : W_type l1 s Q) : icI gG rm_P L ys 0 (d + 2) 103 [(2, ((582 : Nat) : Int)), (0, l1)] s (fun z9 s9 => vI s9 ∧ iR z9 ∧ Q z9 s9) := by
  refine ic_startM (M := rm_p_X10_type) om_X10_type (Nat.le_of_ble_eq_true rfl) ?_
  refine ir_w [(0, (2, ((582 : Nat) : Int))), (1, (0, l1))] ⟨rfl, rfl, trivial⟩ ?_
  have J17 : ∀ (s : im_S) (hv : vI s), W_type_17 s Q → ir gG rm_P L ys (d + 1) rm_p_X10_type (17, [], [], s) (fun r : im_Re => ∃ z, r.1 = some (0, z) ∧ (vI r.2 ∧ iR z ∧ Q z r.2)) := by
    intro s hv hW
    unfold W_type_17 at hW
    refine ir_k (pc' := 18) (v := (0, (-1))) rfl rfl rfl (fun _ => rfl) ?_
    exact ir_iret rfl rfl ⟨_, rfl, hv, (⟨by decide, by decide⟩ : iR (-1)), hW⟩
  unfold W_type at hW
  refine ir_l (pc' := 1) rfl rfl rfl rfl rfl rfl ?_
  refine ir_cSI (pc' := 4) rfl rfl rfl rfl rfl rfl (Nat.le_of_ble_eq_true rfl) (w_isSign L ys d s hv l1 l1r _ hW) (fun z2 s1 hr => ?_)
  obtain ⟨s1v, z2r, hW⟩ := hr
  refine ir_z_eq (pt := 17) (pc' := 7) rfl rfl rfl (fun c3 => ?_) (fun c3 => ?_)
  · have hW := hW.1 c3
    refine ir_w [] trivial ?_
    exact J17 s1 s1v hW
  · have hW := hW.2 c3
    refine ir_l (pc' := 8) rfl rfl rfl rfl rfl rfl ?_
    refine ir_vgi (pc' := 11) rfl rfl rfl rfl rfl s1v (fun r4 => ?_)
    refine ir_k (pc' := 14) (v := (0, 400)) rfl rfl rfl (fun _ => rfl) ?_
    refine ir_c_ne (pt := 19) (pc' := 17) rfl rfl rfl (fun c5 => ?_) (fun c5 => ?_)
    · have hW := hW.1 c5
      obtain ⟨h7, hW⟩ := hW
      refine ir_l (pc' := 20) rfl rfl rfl rfl rfl rfl ?_
      refine ir_vgr (pc' := 23) (c := 583) rfl rfl rfl rfl rfl s1v ?_
      refine ir_l (pc' := 24) rfl rfl rfl rfl rfl rfl ?_
      refine ir_vgi (pc' := 27) rfl rfl rfl rfl rfl s1v (fun r6 => ?_)
      refine ir_l (pc' := 28) rfl rfl rfl rfl rfl rfl ?_
      refine ir_vis (pc' := 29) rfl rfl vg_583 rfl (Nat.le_of_ble_eq_true rfl) s1v rfl h7 l1r (fun s8 s8e s8v => ?_)
      have hW := hW s8 s8e
      obtain ⟨h10, hW⟩ := hW
      refine ir_l (pc' := 30) rfl rfl rfl rfl rfl rfl ?_
      refine ir_x (pc' := 31) rfl rfl rfl (fun _ => rfl) ?_
      refine ir_vgi (pc' := 34) rfl rfl rfl rfl rfl s8v (fun r9 => ?_)
      refine ir_k (pc' := 35) (v := (0, 1)) rfl rfl rfl (fun _ => rfl) ?_
      refine ir_add (pc' := 36) rfl rfl h10.1 h10.2 ?_
      refine ir_vpi (pc' := 39) rfl rfl rfl rfl rfl rfl rfl s8v h10 (fun s11 s11e s11v => ?_)
      have hW := hW s11 s11e
      refine ir_l (pc' := 40) rfl rfl rfl rfl rfl rfl ?_
      refine ir_vgi (pc' := 43) rfl rfl rfl rfl rfl s11v (fun r12 => ?_)
      exact ir_iret rfl rfl ⟨_, rfl, s11v, r12, hW⟩
    · have hW := hW.2 c5
      refine ir_w [] trivial ?_
      exact J17 s1 s1v hW
