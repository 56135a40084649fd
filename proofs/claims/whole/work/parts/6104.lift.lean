/-! THE REFERENCE LIFTED, by program -/
def W_against_71 (K71 : im_S → Prop) (l1 : Int) (l2 : Int) (l4 : Int) (s : im_S) (Q : Int → im_S → Prop) : Prop := (W_whole l2 s (fun z3 s2 => ((0 ≤ l1 ∧ l1 < 90) ∧ (W_powerOfTwo (wga s2 612 l1) s2 (fun z7 s6 => (W_by z3 z7 s6 (fun z9 s8 => ((0 ≤ l1 ∧ l1 < 90) ∧ (W_whole l4 s8 (fun z13 s12 => (W_by (wga s8 611 l1) z13 s12 (fun z15 s14 => (W_compare z15 z9 s14 (fun z17 s16 => ((0 ≤ l1 ∧ l1 < 90) ∧ (W_whole 1 s16 (fun z21 s20 => (W_plus (wga s16 611 l1) z21 s20 (fun z23 s22 => (W_whole l4 s22 (fun z25 s24 => (W_by z23 z25 s24 (fun z27 s26 => (W_compare z27 z9 s26 (fun z29 s28 => (∀ s30, s30 = wpf s28 24 (wgf s 24) → ((z17 < 0 → ((0 < z29 → (W_refine l1 s30 (fun s33 => (K71 (s33))))) ∧ (¬ (0 < z29) → (Q (-1) s30)))) ∧ (¬ (z17 < 0) → (Q 1 s30)))))))))))))))))))))))))))))
def W_against (l1 : Int) (l2 : Int) (l4 : Int) (s : im_S) (Q : Int → im_S → Prop) : Prop := ((0 ≤ l1 ∧ l1 < 90) ∧ (((wga s 609 l1) ≤ 0 → (wloop (fun (K : im_S → Prop) (a : im_S) => W_against_71 K l1 l2 l4 a Q) (s))) ∧ (¬ ((wga s 609 l1) ≤ 0) → ((0 ≤ l1 ∧ l1 < 90) ∧ (W_whole (wga s 608 l1) s (fun z43 s42 => (W_whole l4 s42 (fun z45 s44 => (W_by z43 z45 s44 (fun z47 s46 => (W_whole l2 s46 (fun z49 s48 => ((0 ≤ l1 ∧ l1 < 90) ∧ (W_whole (wga s48 609 l1) s48 (fun z53 s52 => (W_by z49 z53 s52 (fun z55 s54 => (W_compare z47 z55 s54 (fun z57 s56 => (∀ s58, s58 = wpf s56 24 (wgf s 24) → (Q z57 s58)))))))))))))))))))))
set_option maxRecDepth 16384 in
theorem w_against (L : Nat) (ys : Nat → Int32) (d : Nat) (s : im_S) (hv : vI s) (l1 : Int) (l1r : iR l1) (l2 : Int) (l2r : lR l2) (l4 : Int) (l4r : lR l4) (Q : Int → im_S → Prop) (hW : W_against l1 l2 l4 s Q) : icI gG rm_P L ys 0 (d + 7) 9 [(2, ((582 : Nat) : Int)), (0, l1), (1, l2), (1, l4)] s (fun z9 s9 => vI s9 ∧ iR z9 ∧ Q z9 s9) := by
  refine ic_startM (M := rm_p_X10_against) om_X10_against (Nat.le_of_ble_eq_true rfl) ?_
  refine ir_w [(0, (2, ((582 : Nat) : Int))), (1, (0, l1)), (2, (1, l2)), (4, (1, l4))] ⟨rfl, rfl, rfl, rfl, trivial⟩ ?_
  have J71 : ∀ (l1 : Int) (l1r : iR l1) (l2 : Int) (l2r : lR l2) (l4 : Int) (l4r : lR l4) (I71 : im_S → Prop) (r71 : im_S → Nat) (hB71 : ∀ a : im_S, I71 a → W_against_71 (fun b => I71 b ∧ r71 b < r71 a) l1 l2 l4 a Q), ∀ n71 : Nat, ∀ (s : im_S) (hv : vI s), I71 (s) → r71 (s) < n71 → ir gG rm_P L ys (d + 6) rm_p_X10_against (71, [(0, (2, ((582 : Nat) : Int))), (1, (0, l1)), (2, (1, l2)), (4, (1, l4))], [], s) (fun r : im_Re => ∃ z, r.1 = some (0, z) ∧ (vI r.2 ∧ iR z ∧ Q z r.2)) := by
    intro l1 l1r l2 l2r l4 l4r I71 r71 hB71 n71
    induction n71 with
    | zero => intro s hv hI hr; exact absurd hr (Nat.not_lt_zero _)
    | succ n71 ih71 =>
      intro s hv hI hr71
      obtain ⟨t71, ht71⟩ : ∃ t71 : im_S, t71 = (s) := ⟨_, rfl⟩
      rw [← ht71] at hr71
      have hW : W_against_71 (fun b => I71 b ∧ r71 b < r71 t71) l1 l2 l4 s Q := by have z := hB71 (s) hI; rw [ht71]; exact z
      unfold W_against_71 at hW
      refine ir_l (pc' := 72) rfl rfl rfl rfl rfl rfl ?_
      refine ir_vgi (pc' := 75) rfl rfl rfl rfl rfl hv (fun r1 => ?_)
      refine ir_s (pc' := 77) rfl rfl rfl rfl rfl rfl ?_
      refine ir_l (pc' := 78) rfl rfl rfl rfl rfl rfl ?_
      refine ir_l (pc' := 79) rfl rfl rfl rfl rfl rfl ?_
      refine ir_l (pc' := 80) rfl rfl rfl rfl rfl rfl ?_
      refine ir_cVI (pc' := 83) rfl rfl rfl rfl rfl (Nat.le_of_ble_eq_true rfl) oo_X10_whole vg_582 (w_whole L ys (d + 5) s hv l2 l2r _ hW) (fun z3 s2 hr => ?_)
      obtain ⟨s2v, z3r, hW⟩ := hr
      obtain ⟨h4, hW⟩ := hW
      refine ir_l (pc' := 84) rfl rfl rfl rfl rfl rfl ?_
      refine ir_l (pc' := 85) rfl rfl rfl rfl rfl rfl ?_
      refine ir_vgr (pc' := 88) (c := 612) rfl rfl rfl rfl rfl s2v ?_
      refine ir_l (pc' := 89) rfl rfl rfl rfl rfl rfl ?_
      refine ir_via (pc' := 90) rfl rfl vg_612 rfl (Nat.le_of_ble_eq_true rfl) s2v rfl h4 (fun r5 => ?_)
      refine ir_cVI (pc' := 93) rfl rfl rfl rfl rfl (Nat.le_of_ble_eq_true rfl) oo_X10_powerOfTwo vg_582 (w_powerOfTwo L ys (d + 2) s2 s2v (wga s2 612 l1) r5 _ hW) (fun z7 s6 hr => ?_)
      obtain ⟨s6v, z7r, hW⟩ := hr
      refine ir_cVI (pc' := 96) rfl rfl rfl rfl rfl (Nat.le_of_ble_eq_true rfl) oo_X10_by vg_582 (w_by L ys (d + 4) s6 s6v z3 z3r z7 z7r _ hW) (fun z9 s8 hr => ?_)
      obtain ⟨s8v, z9r, hW⟩ := hr
      obtain ⟨h10, hW⟩ := hW
      refine ir_s (pc' := 98) rfl rfl rfl rfl rfl rfl ?_
      refine ir_l (pc' := 99) rfl rfl rfl rfl rfl rfl ?_
      refine ir_l (pc' := 100) rfl rfl rfl rfl rfl rfl ?_
      refine ir_l (pc' := 101) rfl rfl rfl rfl rfl rfl ?_
      refine ir_vgr (pc' := 104) (c := 611) rfl rfl rfl rfl rfl s8v ?_
      refine ir_l (pc' := 105) rfl rfl rfl rfl rfl rfl ?_
      refine ir_via (pc' := 106) rfl rfl vg_611 rfl (Nat.le_of_ble_eq_true rfl) s8v rfl h10 (fun r11 => ?_)
      refine ir_l (pc' := 107) rfl rfl rfl rfl rfl rfl ?_
      refine ir_l (pc' := 109) rfl rfl rfl rfl rfl rfl ?_
      refine ir_cVI (pc' := 112) rfl rfl rfl rfl rfl (Nat.le_of_ble_eq_true rfl) oo_X10_whole vg_582 (w_whole L ys (d + 5) s8 s8v l4 l4r _ hW) (fun z13 s12 hr => ?_)
      obtain ⟨s12v, z13r, hW⟩ := hr
      refine ir_cVI (pc' := 115) rfl rfl rfl rfl rfl (Nat.le_of_ble_eq_true rfl) oo_X10_by vg_582 (w_by L ys (d + 4) s12 s12v (wga s8 611 l1) r11 z13 z13r _ hW) (fun z15 s14 hr => ?_)
      obtain ⟨s14v, z15r, hW⟩ := hr
      refine ir_l (pc' := 117) rfl rfl rfl rfl rfl rfl ?_
      refine ir_cVI (pc' := 120) rfl rfl rfl rfl rfl (Nat.le_of_ble_eq_true rfl) oo_X10_compare vg_582 (w_compare L ys (d + 3) s14 s14v z15 z15r z9 z9r _ hW) (fun z17 s16 hr => ?_)
      obtain ⟨s16v, z17r, hW⟩ := hr
      obtain ⟨h18, hW⟩ := hW
      refine ir_s (pc' := 122) rfl rfl rfl rfl rfl rfl ?_
      refine ir_l (pc' := 123) rfl rfl rfl rfl rfl rfl ?_
      refine ir_l (pc' := 124) rfl rfl rfl rfl rfl rfl ?_
      refine ir_l (pc' := 125) rfl rfl rfl rfl rfl rfl ?_
      refine ir_l (pc' := 126) rfl rfl rfl rfl rfl rfl ?_
      refine ir_vgr (pc' := 129) (c := 611) rfl rfl rfl rfl rfl s16v ?_
      refine ir_l (pc' := 130) rfl rfl rfl rfl rfl rfl ?_
      refine ir_via (pc' := 131) rfl rfl vg_611 rfl (Nat.le_of_ble_eq_true rfl) s16v rfl h18 (fun r19 => ?_)
      refine ir_l (pc' := 132) rfl rfl rfl rfl rfl rfl ?_
      refine ir_k (pc' := 133) (v := (1, 1)) rfl rfl rfl (fun _ => rfl) ?_
      refine ir_cVI (pc' := 136) rfl rfl rfl rfl rfl (Nat.le_of_ble_eq_true rfl) oo_X10_whole vg_582 (w_whole L ys (d + 5) s16 s16v 1 (⟨by decide, by decide⟩ : lR 1) _ hW) (fun z21 s20 hr => ?_)
      obtain ⟨s20v, z21r, hW⟩ := hr
      refine ir_cVI (pc' := 139) rfl rfl rfl rfl rfl (Nat.le_of_ble_eq_true rfl) oo_X10_plus vg_582 (w_plus L ys (d + 2) s20 s20v (wga s16 611 l1) r19 z21 z21r _ hW) (fun z23 s22 hr => ?_)
      obtain ⟨s22v, z23r, hW⟩ := hr
      refine ir_l (pc' := 140) rfl rfl rfl rfl rfl rfl ?_
      refine ir_l (pc' := 142) rfl rfl rfl rfl rfl rfl ?_
      refine ir_cVI (pc' := 145) rfl rfl rfl rfl rfl (Nat.le_of_ble_eq_true rfl) oo_X10_whole vg_582 (w_whole L ys (d + 5) s22 s22v l4 l4r _ hW) (fun z25 s24 hr => ?_)
      obtain ⟨s24v, z25r, hW⟩ := hr
      refine ir_cVI (pc' := 148) rfl rfl rfl rfl rfl (Nat.le_of_ble_eq_true rfl) oo_X10_by vg_582 (w_by L ys (d + 4) s24 s24v z23 z23r z25 z25r _ hW) (fun z27 s26 hr => ?_)
      obtain ⟨s26v, z27r, hW⟩ := hr
      refine ir_l (pc' := 150) rfl rfl rfl rfl rfl rfl ?_
      refine ir_cVI (pc' := 153) rfl rfl rfl rfl rfl (Nat.le_of_ble_eq_true rfl) oo_X10_compare vg_582 (w_compare L ys (d + 3) s26 s26v z27 z27r z9 z9r _ hW) (fun z29 s28 hr => ?_)
      obtain ⟨s28v, z29r, hW⟩ := hr
      refine ir_s (pc' := 155) rfl rfl rfl rfl rfl rfl ?_
      refine ir_l (pc' := 156) rfl rfl rfl rfl rfl rfl ?_
      refine ir_l (pc' := 158) rfl rfl rfl rfl rfl rfl ?_
      refine ir_vpi (pc' := 161) rfl rfl rfl rfl rfl rfl rfl s28v r1 (fun s30 s30e s30v => ?_)
      have hW := hW s30 s30e
      refine ir_l (pc' := 163) rfl rfl rfl rfl rfl rfl ?_
      refine ir_z_lt (pt := 168) (pc' := 166) rfl rfl rfl (fun c31 => ?_) (fun c31 => ?_)
      · have hW := hW.1 c31
        refine ir_l (pc' := 170) rfl rfl rfl rfl rfl rfl ?_
        refine ir_z_gt (pt := 175) (pc' := 173) rfl rfl rfl (fun c32 => ?_) (fun c32 => ?_)
        · have hW := hW.1 c32
          refine ir_l (pc' := 176) rfl rfl rfl rfl rfl rfl ?_
          refine ir_l (pc' := 177) rfl rfl rfl rfl rfl rfl ?_
          refine ir_cVV (pc' := 180) rfl rfl rfl rfl rfl (Nat.le_of_ble_eq_true rfl) oo_X10_refine vg_582 (w_refine L ys d s30 s30v l1 l1r _ hW) (fun s33 hr => ?_)
          obtain ⟨s33v, hW⟩ := hr
          refine ir_goto (pc' := 71) rfl rfl ?_
          refine ir_w [(0, (2, ((582 : Nat) : Int))), (1, (0, l1)), (2, (1, l2)), (4, (1, l4))] ⟨rfl, rfl, rfl, rfl, trivial⟩ ?_
          exact ih71 s33 s33v hW.1 (Nat.lt_of_lt_of_le hW.2 (Nat.le_of_lt_succ hr71))
        · have hW := hW.2 c32
          refine ir_k (pc' := 174) (v := (0, (-1))) rfl rfl rfl (fun _ => rfl) ?_
          exact ir_iret rfl rfl ⟨_, rfl, s30v, (⟨by decide, by decide⟩ : iR (-1)), hW⟩
      · have hW := hW.2 c31
        refine ir_k (pc' := 167) (v := (0, 1)) rfl rfl rfl (fun _ => rfl) ?_
        exact ir_iret rfl rfl ⟨_, rfl, s30v, (zR_i (Or.inr rfl)), hW⟩
  unfold W_against at hW
  obtain ⟨h35, hW⟩ := hW
  refine ir_l (pc' := 1) rfl rfl rfl rfl rfl rfl ?_
  refine ir_vgr (pc' := 4) (c := 609) rfl rfl rfl rfl rfl hv ?_
  refine ir_l (pc' := 5) rfl rfl rfl rfl rfl rfl ?_
  refine ir_vla (pc' := 6) rfl rfl vg_609 rfl (Nat.le_of_ble_eq_true rfl) hv rfl h35 (fun r36 => ?_)
  refine ir_k (pc' := 7) (v := (1, 0)) rfl rfl rfl (fun _ => rfl) ?_
  refine ir_lcmp (pc' := 8) rfl rfl r36.1 r36.2 (⟨by decide, by decide⟩ : lR 0).1 (⟨by decide, by decide⟩ : lR 0).2 (fun z37 z37c => ?_)
  refine ir_z_le (pt := 71) (pc' := 11) rfl rfl rfl (fun c38 => ?_) (fun c38 => ?_)
  · have c38 : (wga s 609 l1) ≤ 0 := by omega
    have hW := hW.1 c38
    refine ir_w [(0, (2, ((582 : Nat) : Int))), (1, (0, l1)), (2, (1, l2)), (4, (1, l4))] ⟨rfl, rfl, rfl, rfl, trivial⟩ ?_
    obtain ⟨I9, r9, hI9, hB9⟩ := hW
    exact J71 l1 l1r l2 l2r l4 l4r I9 r9 hB9 _ s hv hI9 (Nat.lt_succ_self _)
  · have c38 : ¬ ((wga s 609 l1) ≤ 0) := by omega
    have hW := hW.2 c38
    obtain ⟨h40, hW⟩ := hW
    refine ir_l (pc' := 12) rfl rfl rfl rfl rfl rfl ?_
    refine ir_vgi (pc' := 15) rfl rfl rfl rfl rfl hv (fun r39 => ?_)
    refine ir_s (pc' := 17) rfl rfl rfl rfl rfl rfl ?_
    refine ir_l (pc' := 18) rfl rfl rfl rfl rfl rfl ?_
    refine ir_l (pc' := 19) rfl rfl rfl rfl rfl rfl ?_
    refine ir_l (pc' := 20) rfl rfl rfl rfl rfl rfl ?_
    refine ir_l (pc' := 21) rfl rfl rfl rfl rfl rfl ?_
    refine ir_vgr (pc' := 24) (c := 608) rfl rfl rfl rfl rfl hv ?_
    refine ir_l (pc' := 25) rfl rfl rfl rfl rfl rfl ?_
    refine ir_vla (pc' := 26) rfl rfl vg_608 rfl (Nat.le_of_ble_eq_true rfl) hv rfl h40 (fun r41 => ?_)
    refine ir_cVI (pc' := 29) rfl rfl rfl rfl rfl (Nat.le_of_ble_eq_true rfl) oo_X10_whole vg_582 (w_whole L ys (d + 5) s hv (wga s 608 l1) r41 _ hW) (fun z43 s42 hr => ?_)
    obtain ⟨s42v, z43r, hW⟩ := hr
    refine ir_l (pc' := 30) rfl rfl rfl rfl rfl rfl ?_
    refine ir_l (pc' := 32) rfl rfl rfl rfl rfl rfl ?_
    refine ir_cVI (pc' := 35) rfl rfl rfl rfl rfl (Nat.le_of_ble_eq_true rfl) oo_X10_whole vg_582 (w_whole L ys (d + 5) s42 s42v l4 l4r _ hW) (fun z45 s44 hr => ?_)
    obtain ⟨s44v, z45r, hW⟩ := hr
    refine ir_cVI (pc' := 38) rfl rfl rfl rfl rfl (Nat.le_of_ble_eq_true rfl) oo_X10_by vg_582 (w_by L ys (d + 4) s44 s44v z43 z43r z45 z45r _ hW) (fun z47 s46 hr => ?_)
    obtain ⟨s46v, z47r, hW⟩ := hr
    refine ir_l (pc' := 39) rfl rfl rfl rfl rfl rfl ?_
    refine ir_l (pc' := 40) rfl rfl rfl rfl rfl rfl ?_
    refine ir_l (pc' := 41) rfl rfl rfl rfl rfl rfl ?_
    refine ir_cVI (pc' := 44) rfl rfl rfl rfl rfl (Nat.le_of_ble_eq_true rfl) oo_X10_whole vg_582 (w_whole L ys (d + 5) s46 s46v l2 l2r _ hW) (fun z49 s48 hr => ?_)
    obtain ⟨s48v, z49r, hW⟩ := hr
    obtain ⟨h50, hW⟩ := hW
    refine ir_l (pc' := 45) rfl rfl rfl rfl rfl rfl ?_
    refine ir_l (pc' := 46) rfl rfl rfl rfl rfl rfl ?_
    refine ir_vgr (pc' := 49) (c := 609) rfl rfl rfl rfl rfl s48v ?_
    refine ir_l (pc' := 50) rfl rfl rfl rfl rfl rfl ?_
    refine ir_vla (pc' := 51) rfl rfl vg_609 rfl (Nat.le_of_ble_eq_true rfl) s48v rfl h50 (fun r51 => ?_)
    refine ir_cVI (pc' := 54) rfl rfl rfl rfl rfl (Nat.le_of_ble_eq_true rfl) oo_X10_whole vg_582 (w_whole L ys (d + 5) s48 s48v (wga s48 609 l1) r51 _ hW) (fun z53 s52 hr => ?_)
    obtain ⟨s52v, z53r, hW⟩ := hr
    refine ir_cVI (pc' := 57) rfl rfl rfl rfl rfl (Nat.le_of_ble_eq_true rfl) oo_X10_by vg_582 (w_by L ys (d + 4) s52 s52v z49 z49r z53 z53r _ hW) (fun z55 s54 hr => ?_)
    obtain ⟨s54v, z55r, hW⟩ := hr
    refine ir_cVI (pc' := 60) rfl rfl rfl rfl rfl (Nat.le_of_ble_eq_true rfl) oo_X10_compare vg_582 (w_compare L ys (d + 3) s54 s54v z47 z47r z55 z55r _ hW) (fun z57 s56 hr => ?_)
    obtain ⟨s56v, z57r, hW⟩ := hr
    refine ir_s (pc' := 62) rfl rfl rfl rfl rfl rfl ?_
    refine ir_l (pc' := 63) rfl rfl rfl rfl rfl rfl ?_
    refine ir_l (pc' := 65) rfl rfl rfl rfl rfl rfl ?_
    refine ir_vpi (pc' := 68) rfl rfl rfl rfl rfl rfl rfl s56v r39 (fun s58 s58e s58v => ?_)
    have hW := hW s58 s58e
    refine ir_l (pc' := 70) rfl rfl rfl rfl rfl rfl ?_
    exact ir_iret rfl rfl ⟨_, rfl, s58v, z57r, hW⟩
def W_timesAt (l1 : Int) (l2 : Int) (s : im_S) (Q : Int → im_S → Prop) : Prop := ((0 ≤ l1 ∧ l1 < 90) ∧ (0 ≤ (wga s 614 l1) ∧ (wga s 614 l1) < 90) ∧ (iR (10 * (wga s 607 (wga s 614 l1)))) ∧ (0 ≤ ((10 * (wga s 607 (wga s 614 l1))) + l2) ∧ ((10 * (wga s 607 (wga s 614 l1))) + l2) < 2000) ∧ (Q (wga s 606 ((10 * (wga s 607 (wga s 614 l1))) + l2)) s))
set_option maxRecDepth 16384 in
theorem w_timesAt (L : Nat) (ys : Nat → Int32) (d : Nat) (s : im_S) (hv : vI s) (l1 : Int) (l1r : iR l1) (l2 : Int) (l2r : iR l2) (Q : Int → im_S → Prop) (hW : W_timesAt l1 l2 s Q) : icI gG rm_P L ys 0 (d + 1) 102 [(2, ((582 : Nat) : Int)), (0, l1), (0, l2)] s (fun z9 s9 => vI s9 ∧ iR z9 ∧ Q z9 s9) := by
  refine ic_startM (M := rm_p_X10_timesAt) om_X10_timesAt (Nat.le_of_ble_eq_true rfl) ?_
  refine ir_w [(0, (2, ((582 : Nat) : Int))), (1, (0, l1)), (2, (0, l2))] ⟨rfl, rfl, rfl, trivial⟩ ?_
  unfold W_timesAt at hW
  obtain ⟨h1, h3, h5, h7, hW⟩ := hW
  have h6 : iR ((10 * (wga s 607 (wga s 614 l1))) + l2) := ⟨by omega, by omega⟩
  refine ir_l (pc' := 1) rfl rfl rfl rfl rfl rfl ?_
  refine ir_vgr (pc' := 4) (c := 606) rfl rfl rfl rfl rfl hv ?_
  refine ir_k (pc' := 6) (v := (0, 10)) rfl rfl rfl (fun _ => rfl) ?_
  refine ir_l (pc' := 7) rfl rfl rfl rfl rfl rfl ?_
  refine ir_vgr (pc' := 10) (c := 607) rfl rfl rfl rfl rfl hv ?_
  refine ir_l (pc' := 11) rfl rfl rfl rfl rfl rfl ?_
  refine ir_vgr (pc' := 14) (c := 614) rfl rfl rfl rfl rfl hv ?_
  refine ir_l (pc' := 15) rfl rfl rfl rfl rfl rfl ?_
  refine ir_via (pc' := 16) rfl rfl vg_614 rfl (Nat.le_of_ble_eq_true rfl) hv rfl h1 (fun r2 => ?_)
  refine ir_via (pc' := 17) rfl rfl vg_607 rfl (Nat.le_of_ble_eq_true rfl) hv rfl h3 (fun r4 => ?_)
  refine ir_mul (pc' := 18) rfl rfl h5.1 h5.2 ?_
  refine ir_l (pc' := 19) rfl rfl rfl rfl rfl rfl ?_
  refine ir_add (pc' := 20) rfl rfl h6.1 h6.2 ?_
  refine ir_via (pc' := 21) rfl rfl vg_606 rfl (Nat.le_of_ble_eq_true rfl) hv rfl h7 (fun r8 => ?_)
  exact ir_iret rfl rfl ⟨_, rfl, hv, r8, hW⟩
def W_isAtom (l1 : Int) (s : im_S) (Q : Int → im_S → Prop) : Prop := (∀ v202 : Int, v202 = (if (wgf s 5) = 0 then 0 else (if l1 < 0 then 0 else (if (wgf s 6) ≤ l1 then 0 else 1))) → (Q v202 s))
set_option maxRecDepth 16384 in
theorem w_isAtom (L : Nat) (ys : Nat → Int32) (d : Nat) (s : im_S) (hv : vI s) (l1 : Int) (l1r : iR l1) (Q : Int → im_S → Prop) (hW : W_isAtom l1 s Q) : icI gG rm_P L ys 0 (d + 1) 49 [(2, ((582 : Nat) : Int)), (0, l1)] s (fun z9 s9 => vI s9 ∧ zR z9 ∧ Q z9 s9) := by
  refine ic_startM (M := rm_p_X10_isAtom) om_X10_isAtom (Nat.le_of_ble_eq_true rfl) ?_
  refine ir_w [(0, (2, ((582 : Nat) : Int))), (1, (0, l1))] ⟨rfl, rfl, trivial⟩ ?_
  unfold W_isAtom at hW
  refine ir_l (pc' := 1) rfl rfl rfl rfl rfl rfl ?_
  refine ir_vgz (pc' := 4) rfl rfl rfl rfl rfl hv (fun r1 => ?_)
  have J203 : ∀ v202 : Int, zR v202 → ((Q v202 s)) → ir gG rm_P L ys d rm_p_X10_isAtom (24, [], [(0, v202)], s) (fun r : im_Re => ∃ z, r.1 = some (0, z) ∧ (vI r.2 ∧ zR z ∧ Q z r.2)) := by
    intro v202 v202r hW
    exact ir_zret rfl rfl v202r ⟨_, rfl, hv, v202r, hW⟩
  refine ir_z_eq (pt := 23) (pc' := 7) rfl rfl rfl (fun c2 => ?_) (fun c2 => ?_)
  · refine ir_k (pc' := 24) (v := (0, 0)) rfl rfl rfl (fun _ => rfl) ?_
    refine ir_w [] trivial ?_
    exact J203 0 (Or.inl rfl) (hW _ (by rw [if_pos c2]))
  · refine ir_l (pc' := 8) rfl rfl rfl rfl rfl rfl ?_
    refine ir_z_lt (pt := 23) (pc' := 11) rfl rfl rfl (fun c3 => ?_) (fun c3 => ?_)
    · refine ir_k (pc' := 24) (v := (0, 0)) rfl rfl rfl (fun _ => rfl) ?_
      refine ir_w [] trivial ?_
      exact J203 0 (Or.inl rfl) (hW _ (by rw [if_neg (fun z => c2 z), if_pos c3]))
    · refine ir_l (pc' := 12) rfl rfl rfl rfl rfl rfl ?_
      refine ir_l (pc' := 13) rfl rfl rfl rfl rfl rfl ?_
      refine ir_vgi (pc' := 16) rfl rfl rfl rfl rfl hv (fun r4 => ?_)
      refine ir_c_ge (pt := 23) (pc' := 19) rfl rfl rfl (fun c5 => ?_) (fun c5 => ?_)
      · refine ir_k (pc' := 24) (v := (0, 0)) rfl rfl rfl (fun _ => rfl) ?_
        refine ir_w [] trivial ?_
        exact J203 0 (Or.inl rfl) (hW _ (by rw [if_neg (fun z => c2 z), if_neg (fun z => c3 z), if_pos c5]))
      · refine ir_k (pc' := 20) (v := (0, 1)) rfl rfl rfl (fun _ => rfl) ?_
        refine ir_goto (pc' := 24) rfl rfl ?_
        refine ir_w [] trivial ?_
        exact J203 1 (Or.inr rfl) (hW _ (by rw [if_neg (fun z => c2 z), if_neg (fun z => c3 z), if_neg (fun z => c5 z)]))
def W_degreeOf_29 (l2 : Int) (s : im_S) (Q : Int → im_S → Prop) : Prop := (Q l2 s)
def W_degreeOf_3 (K3 : Int × im_S → Prop) (l1 : Int) (l2 : Int) (s : im_S) (Q : Int → im_S → Prop) : Prop := ((l2 < 0 → (W_degreeOf_29 l2 s Q)) ∧ (¬ (l2 < 0) → ((iR (9 * l1)) ∧ (0 ≤ ((9 * l1) + l2) ∧ ((9 * l1) + l2) < 90) ∧ ((¬ ((wga s 584 ((9 * l1) + l2)) = 0) → (W_degreeOf_29 l2 s Q)) ∧ ((wga s 584 ((9 * l1) + l2)) = 0 → ((iR (l2 + (-1))) ∧ (K3 ((l2 + (-1)), s))))))))
def W_degreeOf (l1 : Int) (s : im_S) (Q : Int → im_S → Prop) : Prop := (wloop (fun (K : Int × im_S → Prop) (a : Int × im_S) => W_degreeOf_3 K l1 a.1 a.2 Q) (8, s))
set_option maxRecDepth 16384 in
theorem w_degreeOf (L : Nat) (ys : Nat → Int32) (d : Nat) (s : im_S) (hv : vI s) (l1 : Int) (l1r : iR l1) (Q : Int → im_S → Prop) (hW : W_degreeOf l1 s Q) : icI gG rm_P L ys 0 (d + 1) 26 [(2, ((582 : Nat) : Int)), (0, l1)] s (fun z9 s9 => vI s9 ∧ iR z9 ∧ Q z9 s9) := by
  refine ic_startM (M := rm_p_X10_degreeOf) om_X10_degreeOf (Nat.le_of_ble_eq_true rfl) ?_
  refine ir_w [(0, (2, ((582 : Nat) : Int))), (1, (0, l1))] ⟨rfl, rfl, trivial⟩ ?_
  have J29 : ∀ (l2 : Int) (l2r : iR l2) (s : im_S) (hv : vI s), W_degreeOf_29 l2 s Q → ir gG rm_P L ys d rm_p_X10_degreeOf (29, [(2, (0, l2))], [], s) (fun r : im_Re => ∃ z, r.1 = some (0, z) ∧ (vI r.2 ∧ iR z ∧ Q z r.2)) := by
    intro l2 l2r s hv hW
    unfold W_degreeOf_29 at hW
    refine ir_l (pc' := 30) rfl rfl rfl rfl rfl rfl ?_
    exact ir_iret rfl rfl ⟨_, rfl, hv, l2r, hW⟩
  have J3 : ∀ (l1 : Int) (l1r : iR l1) (I3 : Int × im_S → Prop) (r3 : Int × im_S → Nat) (hB3 : ∀ a : Int × im_S, I3 a → W_degreeOf_3 (fun b => I3 b ∧ r3 b < r3 a) l1 a.1 a.2 Q), ∀ n3 : Nat, ∀ (l2 : Int) (l2r : iR l2) (s : im_S) (hv : vI s), I3 (l2, s) → r3 (l2, s) < n3 → ir gG rm_P L ys d rm_p_X10_degreeOf (3, [(0, (2, ((582 : Nat) : Int))), (1, (0, l1)), (2, (0, l2))], [], s) (fun r : im_Re => ∃ z, r.1 = some (0, z) ∧ (vI r.2 ∧ iR z ∧ Q z r.2)) := by
    intro l1 l1r I3 r3 hB3 n3
    induction n3 with
    | zero => intro l2 l2r s hv hI hr; exact absurd hr (Nat.not_lt_zero _)
    | succ n3 ih3 =>
      intro l2 l2r s hv hI hr3
      obtain ⟨t3, ht3⟩ : ∃ t3 : Int × im_S, t3 = (l2, s) := ⟨_, rfl⟩
      rw [← ht3] at hr3
      have hW : W_degreeOf_3 (fun b => I3 b ∧ r3 b < r3 t3) l1 l2 s Q := by have z := hB3 (l2, s) hI; rw [ht3]; exact z
      unfold W_degreeOf_3 at hW
      refine ir_l (pc' := 4) rfl rfl rfl rfl rfl rfl ?_
      refine ir_z_lt (pt := 29) (pc' := 7) rfl rfl rfl (fun c1 => ?_) (fun c1 => ?_)
      · have hW := hW.1 c1
        refine ir_w [(2, (0, l2))] ⟨rfl, trivial⟩ ?_
        exact J29 l2 l2r s hv hW
      · have hW := hW.2 c1
        obtain ⟨h2, h4, hW⟩ := hW
        have h3 : iR ((9 * l1) + l2) := ⟨by omega, by omega⟩
        refine ir_l (pc' := 8) rfl rfl rfl rfl rfl rfl ?_
        refine ir_vgr (pc' := 11) (c := 584) rfl rfl rfl rfl rfl hv ?_
        refine ir_k (pc' := 13) (v := (0, 9)) rfl rfl rfl (fun _ => rfl) ?_
        refine ir_l (pc' := 14) rfl rfl rfl rfl rfl rfl ?_
        refine ir_mul (pc' := 15) rfl rfl h2.1 h2.2 ?_
        refine ir_l (pc' := 16) rfl rfl rfl rfl rfl rfl ?_
        refine ir_add (pc' := 17) rfl rfl h3.1 h3.2 ?_
        refine ir_vla (pc' := 18) rfl rfl vg_584 rfl (Nat.le_of_ble_eq_true rfl) hv rfl h4 (fun r5 => ?_)
        refine ir_k (pc' := 19) (v := (1, 0)) rfl rfl rfl (fun _ => rfl) ?_
        refine ir_lcmp (pc' := 20) rfl rfl r5.1 r5.2 (⟨by decide, by decide⟩ : lR 0).1 (⟨by decide, by decide⟩ : lR 0).2 (fun z6 z6c => ?_)
        refine ir_z_ne (pt := 29) (pc' := 23) rfl rfl rfl (fun c7 => ?_) (fun c7 => ?_)
        · have c7 : ¬ ((wga s 584 ((9 * l1) + l2)) = 0) := by omega
          have hW := hW.1 c7
          refine ir_w [(2, (0, l2))] ⟨rfl, trivial⟩ ?_
          exact J29 l2 l2r s hv hW
        · have c7 : (wga s 584 ((9 * l1) + l2)) = 0 := by omega
          have hW := hW.2 c7
          obtain ⟨h8, hW⟩ := hW
          refine ir_inc (pc' := 26) rfl rfl rfl rfl rfl h8.1 h8.2 ?_
          refine ir_goto (pc' := 3) rfl rfl ?_
          refine ir_w [(0, (2, ((582 : Nat) : Int))), (1, (0, l1)), (2, (0, (l2 + (-1))))] ⟨rfl, rfl, rfl, trivial⟩ ?_
          exact ih3 (l2 + (-1)) h8 s hv hW.1 (Nat.lt_of_lt_of_le hW.2 (Nat.le_of_lt_succ hr3))
  unfold W_degreeOf at hW
  refine ir_k (pc' := 2) (v := (0, 8)) rfl rfl rfl (fun _ => rfl) ?_
  refine ir_s (pc' := 3) rfl rfl rfl rfl rfl rfl ?_
  refine ir_w [(0, (2, ((582 : Nat) : Int))), (1, (0, l1)), (2, (0, 8))] ⟨rfl, rfl, rfl, trivial⟩ ?_
  obtain ⟨I9, r9, hI9, hB9⟩ := hW
  exact J3 l1 l1r I9 r9 hB9 _ 8 (⟨by decide, by decide⟩ : iR 8) s hv hI9 (Nat.lt_succ_self _)
def W_atom_124 (K124 : Int × Int × im_S → Prop) (l1 : Int) (l2 : Int) (l4 : Int) (l5 : Int) (l6 : Int) (s : im_S) (Q : Int → im_S → Prop) : Prop := (((wgf s 34) ≤ l6 → ((¬ (l2 = 11) → iR (l5 - l4)) ∧ (∀ v203 : Int, v203 = (if ¬ (l2 = 11) then (l5 - l4) else l4) → (Q v203 s)))) ∧ (¬ ((wgf s 34) ≤ l6) → ((iR (10 * l6)) ∧ (0 ≤ ((10 * l6) + l1) ∧ ((10 * l6) + l1) < 2000) ∧ (¬ ((wga s 606 ((10 * l6) + l1)) ≤ 0) → (0 ≤ l6 ∧ l6 < 200)) ∧ (¬ ((wga s 606 ((10 * l6) + l1)) ≤ 0) → (0 ≤ (wga s 602 l6) ∧ (wga s 602 l6) < 1200)) ∧ (∀ v409 : Int, v409 = (if (wga s 606 ((10 * l6) + l1)) ≤ 0 then 0 else (wga s 598 (wga s 602 l6))) → ((iR (l5 + v409)) ∧ (iR (l6 + 1)) ∧ (K124 ((l5 + v409), (l6 + 1), s)))))))
def W_atom_86 (K86 : Int × Int × im_S → Prop) (l1 : Int) (l2 : Int) (l5 : Int) (l4 : Int) (l6 : Int) (s : im_S) (Q : Int → im_S → Prop) : Prop := (((wgf s 41) ≤ l6 → (wloop (fun (K : Int × Int × im_S → Prop) (a : Int × Int × im_S) => W_atom_124 K l1 l2 l4 a.1 a.2.1 a.2.2 Q) (l5, 0, s))) ∧ (¬ ((wgf s 41) ≤ l6) → (W_timesAt l6 l1 s (fun z416 s415 => (∀ v617 : Int, v617 = (if z416 ≤ 0 then 0 else 1) → ((iR (l4 + v617)) ∧ (iR (l6 + 1)) ∧ (K86 ((l4 + v617), (l6 + 1), s415))))))))
def W_atom_18 (s : im_S) (Q : Int → im_S → Prop) : Prop := (Q (-2000000000) s)
def W_atom (l1 : Int) (l2 : Int) (s : im_S) (Q : Int → im_S → Prop) : Prop := (W_isAtom l1 s (fun z622 s621 => ((z622 = 0 → (W_atom_18 s621 Q)) ∧ (¬ (z622 = 0) → ((l2 < 0 → (W_atom_18 s621 Q)) ∧ (¬ (l2 < 0) → ((l2 ≤ 12 → ((9 ≤ l2 → (W_degreeOf l1 s621 (fun z628 s627 => ((¬ (l2 = 9) → ((¬ (l2 = 10) → (wloop (fun (K : Int × Int × im_S → Prop) (a : Int × Int × im_S) => W_atom_86 K l1 l2 0 a.1 a.2.1 a.2.2 Q) (0, 0, s627))) ∧ (l2 = 10 → ((0 ≤ l1 ∧ l1 < 10) ∧ (Q (wga s627 585 l1) s627))))) ∧ (l2 = 9 → (∀ v833 : Int, v833 = (if 0 ≤ z628 then z628 else (-2)) → (Q v833 s627))))))) ∧ (¬ (9 ≤ l2) → ((iR (9 * l1)) ∧ (0 ≤ ((9 * l1) + l2) ∧ ((9 * l1) + l2) < 90) ∧ (iR (wga s621 584 ((9 * l1) + l2))) ∧ (Q (wga s621 584 ((9 * l1) + l2)) s621))))) ∧ (¬ (l2 ≤ 12) → (W_atom_18 s621 Q)))))))))
set_option maxRecDepth 16384 in
theorem w_atom (L : Nat) (ys : Nat → Int32) (d : Nat) (s : im_S) (hv : vI s) (l1 : Int) (l1r : iR l1) (l2 : Int) (l2r : iR l2) (Q : Int → im_S → Prop) (hW : W_atom l1 l2 s Q) : icI gG rm_P L ys 0 (d + 2) 11 [(2, ((582 : Nat) : Int)), (0, l1), (0, l2)] s (fun z9 s9 => vI s9 ∧ iR z9 ∧ Q z9 s9) := by
  refine ic_startM (M := rm_p_X10_atom) om_X10_atom (Nat.le_of_ble_eq_true rfl) ?_
  refine ir_w [(0, (2, ((582 : Nat) : Int))), (1, (0, l1)), (2, (0, l2))] ⟨rfl, rfl, rfl, trivial⟩ ?_
  have J124 : ∀ (l1 : Int) (l1r : iR l1) (l2 : Int) (l2r : iR l2) (l4 : Int) (l4r : iR l4) (I124 : Int × Int × im_S → Prop) (r124 : Int × Int × im_S → Nat) (hB124 : ∀ a : Int × Int × im_S, I124 a → W_atom_124 (fun b => I124 b ∧ r124 b < r124 a) l1 l2 l4 a.1 a.2.1 a.2.2 Q), ∀ n124 : Nat, ∀ (l5 : Int) (l5r : iR l5) (l6 : Int) (l6r : iR l6) (s : im_S) (hv : vI s), I124 (l5, l6, s) → r124 (l5, l6, s) < n124 → ir gG rm_P L ys (d + 1) rm_p_X10_atom (124, [(0, (2, ((582 : Nat) : Int))), (1, (0, l1)), (2, (0, l2)), (4, (0, l4)), (5, (0, l5)), (6, (0, l6))], [], s) (fun r : im_Re => ∃ z, r.1 = some (0, z) ∧ (vI r.2 ∧ iR z ∧ Q z r.2)) := by
    intro l1 l1r l2 l2r l4 l4r I124 r124 hB124 n124
    induction n124 with
    | zero => intro l5 l5r l6 l6r s hv hI hr; exact absurd hr (Nat.not_lt_zero _)
    | succ n124 ih124 =>
      intro l5 l5r l6 l6r s hv hI hr124
      obtain ⟨t124, ht124⟩ : ∃ t124 : Int × Int × im_S, t124 = (l5, l6, s) := ⟨_, rfl⟩
      rw [← ht124] at hr124
      have hW : W_atom_124 (fun b => I124 b ∧ r124 b < r124 t124) l1 l2 l4 l5 l6 s Q := by have z := hB124 (l5, l6, s) hI; rw [ht124]; exact z
      unfold W_atom_124 at hW
      refine ir_l (pc' := 126) rfl rfl rfl rfl rfl rfl ?_
      refine ir_l (pc' := 127) rfl rfl rfl rfl rfl rfl ?_
      refine ir_vgi (pc' := 130) rfl rfl rfl rfl rfl hv (fun r1 => ?_)
      refine ir_c_ge (pt := 175) (pc' := 133) rfl rfl rfl (fun c2 => ?_) (fun c2 => ?_)
      · have hW := hW.1 c2
        obtain ⟨h4, hW⟩ := hW
        refine ir_l (pc' := 176) rfl rfl rfl rfl rfl rfl ?_
        refine ir_k (pc' := 178) (v := (0, 11)) rfl rfl rfl (fun _ => rfl) ?_
        have J204 : ∀ v203 : Int, iR v203 → ((Q v203 s)) → ir gG rm_P L ys (d + 1) rm_p_X10_atom (191, [], [(0, v203)], s) (fun r : im_Re => ∃ z, r.1 = some (0, z) ∧ (vI r.2 ∧ iR z ∧ Q z r.2)) := by
          intro v203 v203r hW
          exact ir_iret rfl rfl ⟨_, rfl, hv, v203r, hW⟩
        refine ir_c_ne (pt := 186) (pc' := 181) rfl rfl rfl (fun c3 => ?_) (fun c3 => ?_)
        · refine ir_l (pc' := 188) rfl rfl rfl rfl rfl rfl ?_
          refine ir_l (pc' := 190) rfl rfl rfl rfl rfl rfl ?_
          refine ir_sub (pc' := 191) rfl rfl (h4 c3).1 (h4 c3).2 ?_
          refine ir_w [] trivial ?_
          exact J204 (l5 - l4) (h4 c3) (hW _ (by rw [if_pos c3]))
        · refine ir_l (pc' := 183) rfl rfl rfl rfl rfl rfl ?_
          refine ir_goto (pc' := 191) rfl rfl ?_
          refine ir_w [] trivial ?_
          exact J204 l4 l4r (hW _ (by rw [if_neg (by omega)]))
      · have hW := hW.2 c2
        obtain ⟨h205, h207, h210, h212, hW⟩ := hW
        have h206 : iR ((10 * l6) + l1) := ⟨by omega, by omega⟩
        refine ir_l (pc' := 135) rfl rfl rfl rfl rfl rfl ?_
        refine ir_l (pc' := 136) rfl rfl rfl rfl rfl rfl ?_
        refine ir_vgr (pc' := 139) (c := 606) rfl rfl rfl rfl rfl hv ?_
        refine ir_k (pc' := 141) (v := (0, 10)) rfl rfl rfl (fun _ => rfl) ?_
        refine ir_l (pc' := 143) rfl rfl rfl rfl rfl rfl ?_
        refine ir_mul (pc' := 144) rfl rfl h205.1 h205.2 ?_
        refine ir_l (pc' := 145) rfl rfl rfl rfl rfl rfl ?_
        refine ir_add (pc' := 146) rfl rfl h206.1 h206.2 ?_
        refine ir_via (pc' := 147) rfl rfl vg_606 rfl (Nat.le_of_ble_eq_true rfl) hv rfl h207 (fun r208 => ?_)
        have J410 : ∀ v409 : Int, iR v409 → (((iR (l5 + v409)) ∧ (iR (l6 + 1)) ∧ ((fun b => I124 b ∧ r124 b < r124 t124) ((l5 + v409), (l6 + 1), s)))) → ir gG rm_P L ys (d + 1) rm_p_X10_atom (166, [(0, (2, ((582 : Nat) : Int))), (1, (0, l1)), (2, (0, l2)), (4, (0, l4)), (6, (0, l6))], [(0, v409), (0, l5)], s) (fun r : im_Re => ∃ z, r.1 = some (0, z) ∧ (vI r.2 ∧ iR z ∧ Q z r.2)) := by
          intro v409 v409r hW
          obtain ⟨h411, h412, hW⟩ := hW
          refine ir_add (pc' := 167) rfl rfl h411.1 h411.2 ?_
          refine ir_s (pc' := 169) rfl rfl rfl rfl rfl rfl ?_
          refine ir_inc (pc' := 172) rfl rfl rfl rfl rfl h412.1 h412.2 ?_
          refine ir_goto (pc' := 124) rfl rfl ?_
          refine ir_w [(0, (2, ((582 : Nat) : Int))), (1, (0, l1)), (2, (0, l2)), (4, (0, l4)), (5, (0, (l5 + v409))), (6, (0, (l6 + 1)))] ⟨rfl, rfl, rfl, rfl, rfl, rfl, trivial⟩ ?_
          exact ih124 (l5 + v409) h411 (l6 + 1) h412 s hv hW.1 (Nat.lt_of_lt_of_le hW.2 (Nat.le_of_lt_succ hr124))
        refine ir_z_le (pt := 165) (pc' := 150) rfl rfl rfl (fun c209 => ?_) (fun c209 => ?_)
        · refine ir_k (pc' := 166) (v := (0, 0)) rfl rfl rfl (fun _ => rfl) ?_
          refine ir_w [(0, (2, ((582 : Nat) : Int))), (1, (0, l1)), (2, (0, l2)), (4, (0, l4)), (6, (0, l6))] ⟨rfl, rfl, rfl, rfl, rfl, trivial⟩ ?_
          exact J410 0 (zR_i (Or.inl rfl)) (hW _ (by rw [if_pos c209]))
        · refine ir_l (pc' := 151) rfl rfl rfl rfl rfl rfl ?_
          refine ir_vgr (pc' := 154) (c := 598) rfl rfl rfl rfl rfl hv ?_
          refine ir_l (pc' := 155) rfl rfl rfl rfl rfl rfl ?_
          refine ir_vgr (pc' := 158) (c := 602) rfl rfl rfl rfl rfl hv ?_
          refine ir_l (pc' := 160) rfl rfl rfl rfl rfl rfl ?_
          refine ir_via (pc' := 161) rfl rfl vg_602 rfl (Nat.le_of_ble_eq_true rfl) hv rfl (h210 c209) (fun r211 => ?_)
          refine ir_via (pc' := 162) rfl rfl vg_598 rfl (Nat.le_of_ble_eq_true rfl) hv rfl (h212 c209) (fun r213 => ?_)
          refine ir_goto (pc' := 166) rfl rfl ?_
          refine ir_w [(0, (2, ((582 : Nat) : Int))), (1, (0, l1)), (2, (0, l2)), (4, (0, l4)), (6, (0, l6))] ⟨rfl, rfl, rfl, rfl, rfl, trivial⟩ ?_
          exact J410 (wga s 598 (wga s 602 l6)) r213 (hW _ (by rw [if_neg (fun z => c209 z)]))
  have J86 : ∀ (l1 : Int) (l1r : iR l1) (l2 : Int) (l2r : iR l2) (l5 : Int) (l5r : iR l5) (I86 : Int × Int × im_S → Prop) (r86 : Int × Int × im_S → Nat) (hB86 : ∀ a : Int × Int × im_S, I86 a → W_atom_86 (fun b => I86 b ∧ r86 b < r86 a) l1 l2 l5 a.1 a.2.1 a.2.2 Q), ∀ n86 : Nat, ∀ (l4 : Int) (l4r : iR l4) (l6 : Int) (l6r : iR l6) (s : im_S) (hv : vI s), I86 (l4, l6, s) → r86 (l4, l6, s) < n86 → ir gG rm_P L ys (d + 1) rm_p_X10_atom (86, [(0, (2, ((582 : Nat) : Int))), (1, (0, l1)), (2, (0, l2)), (4, (0, l4)), (5, (0, l5)), (6, (0, l6))], [], s) (fun r : im_Re => ∃ z, r.1 = some (0, z) ∧ (vI r.2 ∧ iR z ∧ Q z r.2)) := by
    intro l1 l1r l2 l2r l5 l5r I86 r86 hB86 n86
    induction n86 with
    | zero => intro l4 l4r l6 l6r s hv hI hr; exact absurd hr (Nat.not_lt_zero _)
    | succ n86 ih86 =>
      intro l4 l4r l6 l6r s hv hI hr86
      obtain ⟨t86, ht86⟩ : ∃ t86 : Int × Int × im_S, t86 = (l4, l6, s) := ⟨_, rfl⟩
      rw [← ht86] at hr86
      have hW : W_atom_86 (fun b => I86 b ∧ r86 b < r86 t86) l1 l2 l5 l4 l6 s Q := by have z := hB86 (l4, l6, s) hI; rw [ht86]; exact z
      unfold W_atom_86 at hW
      refine ir_l (pc' := 88) rfl rfl rfl rfl rfl rfl ?_
      refine ir_l (pc' := 89) rfl rfl rfl rfl rfl rfl ?_
      refine ir_vgi (pc' := 92) rfl rfl rfl rfl rfl hv (fun r413 => ?_)
      refine ir_c_ge (pt := 121) (pc' := 95) rfl rfl rfl (fun c414 => ?_) (fun c414 => ?_)
      · have hW := hW.1 c414
        refine ir_k (pc' := 122) (v := (0, 0)) rfl rfl rfl (fun _ => rfl) ?_
        refine ir_s (pc' := 124) rfl rfl rfl rfl rfl rfl ?_
        refine ir_w [(0, (2, ((582 : Nat) : Int))), (1, (0, l1)), (2, (0, l2)), (4, (0, l4)), (5, (0, l5)), (6, (0, 0))] ⟨rfl, rfl, rfl, rfl, rfl, rfl, trivial⟩ ?_
        obtain ⟨I9, r9, hI9, hB9⟩ := hW
        exact J124 l1 l1r l2 l2r l4 l4r I9 r9 hB9 _ l5 l5r 0 (zR_i (Or.inl rfl)) s hv hI9 (Nat.lt_succ_self _)
      · have hW := hW.2 c414
        refine ir_l (pc' := 97) rfl rfl rfl rfl rfl rfl ?_
        refine ir_l (pc' := 98) rfl rfl rfl rfl rfl rfl ?_
        refine ir_l (pc' := 100) rfl rfl rfl rfl rfl rfl ?_
        refine ir_l (pc' := 101) rfl rfl rfl rfl rfl rfl ?_
        refine ir_cVI (pc' := 104) rfl rfl rfl rfl rfl (Nat.le_of_ble_eq_true rfl) oo_X10_timesAt vg_582 (w_timesAt L ys d s hv l6 l6r l1 l1r _ hW) (fun z416 s415 hr => ?_)
        obtain ⟨s415v, z416r, hW⟩ := hr
        have J618 : ∀ v617 : Int, zR v617 → (((iR (l4 + v617)) ∧ (iR (l6 + 1)) ∧ ((fun b => I86 b ∧ r86 b < r86 t86) ((l4 + v617), (l6 + 1), s415)))) → ir gG rm_P L ys (d + 1) rm_p_X10_atom (112, [(0, (2, ((582 : Nat) : Int))), (1, (0, l1)), (2, (0, l2)), (5, (0, l5)), (6, (0, l6))], [(0, v617), (0, l4)], s415) (fun r : im_Re => ∃ z, r.1 = some (0, z) ∧ (vI r.2 ∧ iR z ∧ Q z r.2)) := by
          intro v617 v617r hW
          obtain ⟨h619, h620, hW⟩ := hW
          refine ir_add (pc' := 113) rfl rfl h619.1 h619.2 ?_
          refine ir_s (pc' := 115) rfl rfl rfl rfl rfl rfl ?_
          refine ir_inc (pc' := 118) rfl rfl rfl rfl rfl h620.1 h620.2 ?_
          refine ir_goto (pc' := 86) rfl rfl ?_
          refine ir_w [(0, (2, ((582 : Nat) : Int))), (1, (0, l1)), (2, (0, l2)), (4, (0, (l4 + v617))), (5, (0, l5)), (6, (0, (l6 + 1)))] ⟨rfl, rfl, rfl, rfl, rfl, rfl, trivial⟩ ?_
          exact ih86 (l4 + v617) h619 (l6 + 1) h620 s415 s415v hW.1 (Nat.lt_of_lt_of_le hW.2 (Nat.le_of_lt_succ hr86))
        refine ir_z_le (pt := 111) (pc' := 107) rfl rfl rfl (fun c417 => ?_) (fun c417 => ?_)
        · refine ir_k (pc' := 112) (v := (0, 0)) rfl rfl rfl (fun _ => rfl) ?_
          refine ir_w [(0, (2, ((582 : Nat) : Int))), (1, (0, l1)), (2, (0, l2)), (5, (0, l5)), (6, (0, l6))] ⟨rfl, rfl, rfl, rfl, rfl, trivial⟩ ?_
          exact J618 0 (Or.inl rfl) (hW _ (by rw [if_pos c417]))
        · refine ir_k (pc' := 108) (v := (0, 1)) rfl rfl rfl (fun _ => rfl) ?_
          refine ir_goto (pc' := 112) rfl rfl ?_
          refine ir_w [(0, (2, ((582 : Nat) : Int))), (1, (0, l1)), (2, (0, l2)), (5, (0, l5)), (6, (0, l6))] ⟨rfl, rfl, rfl, rfl, rfl, trivial⟩ ?_
          exact J618 1 (Or.inr rfl) (hW _ (by rw [if_neg (fun z => c417 z)]))
  have J18 : ∀ (s : im_S) (hv : vI s), W_atom_18 s Q → ir gG rm_P L ys (d + 1) rm_p_X10_atom (18, [], [], s) (fun r : im_Re => ∃ z, r.1 = some (0, z) ∧ (vI r.2 ∧ iR z ∧ Q z r.2)) := by
    intro s hv hW
    unfold W_atom_18 at hW
    refine ir_k (pc' := 21) (v := (0, (-2000000000))) rfl rfl rfl (fun _ => rfl) ?_
    exact ir_iret rfl rfl ⟨_, rfl, hv, (⟨by decide, by decide⟩ : iR (-2000000000)), hW⟩
  unfold W_atom at hW
  refine ir_l (pc' := 1) rfl rfl rfl rfl rfl rfl ?_
  refine ir_l (pc' := 2) rfl rfl rfl rfl rfl rfl ?_
  refine ir_cVI (pc' := 5) rfl rfl rfl rfl rfl (Nat.le_of_ble_eq_true rfl) oo_X10_isAtom vg_582 (w_isAtom L ys d s hv l1 l1r _ hW) (fun z622 s621 hr => ?_)
  obtain ⟨s621v, z622r, hW⟩ := hr
  refine ir_z_eq (pt := 18) (pc' := 8) rfl rfl rfl (fun c623 => ?_) (fun c623 => ?_)
  · have hW := hW.1 c623
    refine ir_w [] trivial ?_
    exact J18 s621 s621v hW
  · have hW := hW.2 c623
    refine ir_l (pc' := 9) rfl rfl rfl rfl rfl rfl ?_
    refine ir_z_lt (pt := 18) (pc' := 12) rfl rfl rfl (fun c624 => ?_) (fun c624 => ?_)
    · have hW := hW.1 c624
      refine ir_w [] trivial ?_
      exact J18 s621 s621v hW
    · have hW := hW.2 c624
      refine ir_l (pc' := 13) rfl rfl rfl rfl rfl rfl ?_
      refine ir_k (pc' := 15) (v := (0, 12)) rfl rfl rfl (fun _ => rfl) ?_
      refine ir_c_le (pt := 22) (pc' := 18) rfl rfl rfl (fun c625 => ?_) (fun c625 => ?_)
      · have hW := hW.1 c625
        refine ir_l (pc' := 23) rfl rfl rfl rfl rfl rfl ?_
        refine ir_k (pc' := 25) (v := (0, 9)) rfl rfl rfl (fun _ => rfl) ?_
        refine ir_c_ge (pt := 41) (pc' := 28) rfl rfl rfl (fun c626 => ?_) (fun c626 => ?_)
        · have hW := hW.1 c626
          refine ir_l (pc' := 42) rfl rfl rfl rfl rfl rfl ?_
          refine ir_l (pc' := 43) rfl rfl rfl rfl rfl rfl ?_
          refine ir_cVI (pc' := 46) rfl rfl rfl rfl rfl (Nat.le_of_ble_eq_true rfl) oo_X10_degreeOf vg_582 (w_degreeOf L ys d s621 s621v l1 l1r _ hW) (fun z628 s627 hr => ?_)
          obtain ⟨s627v, z628r, hW⟩ := hr
          refine ir_s (pc' := 47) rfl rfl rfl rfl rfl rfl ?_
          refine ir_l (pc' := 48) rfl rfl rfl rfl rfl rfl ?_
          refine ir_k (pc' := 50) (v := (0, 9)) rfl rfl rfl (fun _ => rfl) ?_
          refine ir_c_ne (pt := 64) (pc' := 53) rfl rfl rfl (fun c629 => ?_) (fun c629 => ?_)
          · have hW := hW.1 c629
            refine ir_l (pc' := 65) rfl rfl rfl rfl rfl rfl ?_
            refine ir_k (pc' := 67) (v := (0, 10)) rfl rfl rfl (fun _ => rfl) ?_
            refine ir_c_ne (pt := 77) (pc' := 70) rfl rfl rfl (fun c630 => ?_) (fun c630 => ?_)
            · have hW := hW.1 c630
              refine ir_k (pc' := 78) (v := (0, 0)) rfl rfl rfl (fun _ => rfl) ?_
              refine ir_s (pc' := 80) rfl rfl rfl rfl rfl rfl ?_
              refine ir_k (pc' := 81) (v := (0, 0)) rfl rfl rfl (fun _ => rfl) ?_
              refine ir_s (pc' := 83) rfl rfl rfl rfl rfl rfl ?_
              refine ir_k (pc' := 84) (v := (0, 0)) rfl rfl rfl (fun _ => rfl) ?_
              refine ir_s (pc' := 86) rfl rfl rfl rfl rfl rfl ?_
              refine ir_w [(0, (2, ((582 : Nat) : Int))), (1, (0, l1)), (2, (0, l2)), (4, (0, 0)), (5, (0, 0)), (6, (0, 0))] ⟨rfl, rfl, rfl, rfl, rfl, rfl, trivial⟩ ?_
              obtain ⟨I9, r9, hI9, hB9⟩ := hW
              exact J86 l1 l1r l2 l2r 0 (zR_i (Or.inl rfl)) I9 r9 hB9 _ 0 (zR_i (Or.inl rfl)) 0 (zR_i (Or.inl rfl)) s627 s627v hI9 (Nat.lt_succ_self _)
            · have hW := hW.2 c630
              obtain ⟨h631, hW⟩ := hW
              refine ir_l (pc' := 71) rfl rfl rfl rfl rfl rfl ?_
              refine ir_vgr (pc' := 74) (c := 585) rfl rfl rfl rfl rfl s627v ?_
              refine ir_l (pc' := 75) rfl rfl rfl rfl rfl rfl ?_
              refine ir_via (pc' := 76) rfl rfl vg_585 rfl (Nat.le_of_ble_eq_true rfl) s627v rfl h631 (fun r632 => ?_)
              exact ir_iret rfl rfl ⟨_, rfl, s627v, r632, hW⟩
          · have hW := hW.2 c629
            refine ir_l (pc' := 54) rfl rfl rfl rfl rfl rfl ?_
            have J834 : ∀ v833 : Int, iR v833 → ((Q v833 s627)) → ir gG rm_P L ys (d + 1) rm_p_X10_atom (63, [], [(0, v833)], s627) (fun r : im_Re => ∃ z, r.1 = some (0, z) ∧ (vI r.2 ∧ iR z ∧ Q z r.2)) := by
              intro v833 v833r hW
              exact ir_iret rfl rfl ⟨_, rfl, s627v, v833r, hW⟩
            refine ir_z_ge (pt := 62) (pc' := 57) rfl rfl rfl (fun c633 => ?_) (fun c633 => ?_)
            · refine ir_l (pc' := 63) rfl rfl rfl rfl rfl rfl ?_
              refine ir_w [] trivial ?_
              exact J834 z628 z628r (hW _ (by rw [if_pos c633]))
            · refine ir_k (pc' := 59) (v := (0, (-2))) rfl rfl rfl (fun _ => rfl) ?_
              refine ir_goto (pc' := 63) rfl rfl ?_
              refine ir_w [] trivial ?_
              exact J834 (-2) (⟨by decide, by decide⟩ : iR (-2)) (hW _ (by rw [if_neg (fun z => c633 z)]))
        · have hW := hW.2 c626
          obtain ⟨h835, h837, h839, hW⟩ := hW
          have h836 : iR ((9 * l1) + l2) := ⟨by omega, by omega⟩
          refine ir_l (pc' := 29) rfl rfl rfl rfl rfl rfl ?_
          refine ir_vgr (pc' := 32) (c := 584) rfl rfl rfl rfl rfl s621v ?_
          refine ir_k (pc' := 34) (v := (0, 9)) rfl rfl rfl (fun _ => rfl) ?_
          refine ir_l (pc' := 35) rfl rfl rfl rfl rfl rfl ?_
          refine ir_mul (pc' := 36) rfl rfl h835.1 h835.2 ?_
          refine ir_l (pc' := 37) rfl rfl rfl rfl rfl rfl ?_
          refine ir_add (pc' := 38) rfl rfl h836.1 h836.2 ?_
          refine ir_vla (pc' := 39) rfl rfl vg_584 rfl (Nat.le_of_ble_eq_true rfl) s621v rfl h837 (fun r838 => ?_)
          refine ir_l2i (pc' := 40) rfl rfl h839.1 h839.2 ?_
          exact ir_iret rfl rfl ⟨_, rfl, s621v, h839, hW⟩
      · have hW := hW.2 c625
        refine ir_w [] trivial ?_
        exact J18 s621 s621v hW
def W_peek_38 (s : im_S) (Q : Int → im_S → Prop) : Prop := ((¬ ((wgf s 1) ≤ (wgf s 4)) → (0 ≤ (wgf s 4) ∧ (wgf s 4) < 400)) ∧ (∀ v203 : Int, v203 = (if (wgf s 1) ≤ (wgf s 4) then (-1) else (wga s 583 (wgf s 4))) → (Q v203 s)))
def W_peek_0 (K0 : im_S → Prop) (s : im_S) (Q : Int → im_S → Prop) : Prop := (((wgf s 1) ≤ (wgf s 4) → (W_peek_38 s Q)) ∧ (¬ ((wgf s 1) ≤ (wgf s 4)) → ((0 ≤ (wgf s 4) ∧ (wgf s 4) < 400) ∧ ((¬ ((wga s 583 (wgf s 4)) = 32) → (W_peek_38 s Q)) ∧ ((wga s 583 (wgf s 4)) = 32 → ((iR ((wgf s 4) + 1)) ∧ (∀ s214, s214 = wpf s 4 ((wgf s 4) + 1) → (K0 (s214)))))))))
def W_peek (s : im_S) (Q : Int → im_S → Prop) : Prop := (wloop (fun (K : im_S → Prop) (a : im_S) => W_peek_0 K a Q) (s))
set_option maxRecDepth 16384 in
theorem w_peek (L : Nat) (ys : Nat → Int32) (d : Nat) (s : im_S) (hv : vI s) (Q : Int → im_S → Prop) (hW : W_peek s Q) : icI gG rm_P L ys 0 (d + 1) 76 [(2, ((582 : Nat) : Int))] s (fun z9 s9 => vI s9 ∧ iR z9 ∧ Q z9 s9) := by
  refine ic_startM (M := rm_p_X10_peek) om_X10_peek (Nat.le_of_ble_eq_true rfl) ?_
  refine ir_w [(0, (2, ((582 : Nat) : Int)))] ⟨rfl, trivial⟩ ?_
  have J38 : ∀ (s : im_S) (hv : vI s), W_peek_38 s Q → ir gG rm_P L ys d rm_p_X10_peek (38, [(0, (2, ((582 : Nat) : Int)))], [], s) (fun r : im_Re => ∃ z, r.1 = some (0, z) ∧ (vI r.2 ∧ iR z ∧ Q z r.2)) := by
    intro s hv hW
    unfold W_peek_38 at hW
    obtain ⟨h5, hW⟩ := hW
    refine ir_l (pc' := 39) rfl rfl rfl rfl rfl rfl ?_
    refine ir_vgi (pc' := 42) rfl rfl rfl rfl rfl hv (fun r1 => ?_)
    refine ir_l (pc' := 43) rfl rfl rfl rfl rfl rfl ?_
    refine ir_vgi (pc' := 46) rfl rfl rfl rfl rfl hv (fun r2 => ?_)
    have J204 : ∀ v203 : Int, iR v203 → ((Q v203 s)) → ir gG rm_P L ys d rm_p_X10_peek (62, [], [(0, v203)], s) (fun r : im_Re => ∃ z, r.1 = some (0, z) ∧ (vI r.2 ∧ iR z ∧ Q z r.2)) := by
      intro v203 v203r hW
      exact ir_iret rfl rfl ⟨_, rfl, hv, v203r, hW⟩
    refine ir_c_ge (pt := 61) (pc' := 49) rfl rfl rfl (fun c3 => ?_) (fun c3 => ?_)
    · refine ir_k (pc' := 62) (v := (0, (-1))) rfl rfl rfl (fun _ => rfl) ?_
      refine ir_w [] trivial ?_
      exact J204 (-1) (⟨by decide, by decide⟩ : iR (-1)) (hW _ (by rw [if_pos c3]))
    · refine ir_l (pc' := 50) rfl rfl rfl rfl rfl rfl ?_
      refine ir_vgr (pc' := 53) (c := 583) rfl rfl rfl rfl rfl hv ?_
      refine ir_l (pc' := 54) rfl rfl rfl rfl rfl rfl ?_
      refine ir_vgi (pc' := 57) rfl rfl rfl rfl rfl hv (fun r4 => ?_)
      refine ir_via (pc' := 58) rfl rfl vg_583 rfl (Nat.le_of_ble_eq_true rfl) hv rfl (h5 c3) (fun r6 => ?_)
      refine ir_goto (pc' := 62) rfl rfl ?_
      refine ir_w [] trivial ?_
      exact J204 (wga s 583 (wgf s 4)) r6 (hW _ (by rw [if_neg (fun z => c3 z)]))
  have J0 : ∀ (I0 : im_S → Prop) (r0 : im_S → Nat) (hB0 : ∀ a : im_S, I0 a → W_peek_0 (fun b => I0 b ∧ r0 b < r0 a) a Q), ∀ n0 : Nat, ∀ (s : im_S) (hv : vI s), I0 (s) → r0 (s) < n0 → ir gG rm_P L ys d rm_p_X10_peek (0, [(0, (2, ((582 : Nat) : Int)))], [], s) (fun r : im_Re => ∃ z, r.1 = some (0, z) ∧ (vI r.2 ∧ iR z ∧ Q z r.2)) := by
    intro I0 r0 hB0 n0
    induction n0 with
    | zero => intro s hv hI hr; exact absurd hr (Nat.not_lt_zero _)
    | succ n0 ih0 =>
      intro s hv hI hr0
      obtain ⟨t0, ht0⟩ : ∃ t0 : im_S, t0 = (s) := ⟨_, rfl⟩
      rw [← ht0] at hr0
      have hW : W_peek_0 (fun b => I0 b ∧ r0 b < r0 t0) s Q := by have z := hB0 (s) hI; rw [ht0]; exact z
      unfold W_peek_0 at hW
      refine ir_l (pc' := 1) rfl rfl rfl rfl rfl rfl ?_
      refine ir_vgi (pc' := 4) rfl rfl rfl rfl rfl hv (fun r205 => ?_)
      refine ir_l (pc' := 5) rfl rfl rfl rfl rfl rfl ?_
      refine ir_vgi (pc' := 8) rfl rfl rfl rfl rfl hv (fun r206 => ?_)
      refine ir_c_ge (pt := 38) (pc' := 11) rfl rfl rfl (fun c207 => ?_) (fun c207 => ?_)
      · have hW := hW.1 c207
        refine ir_w [(0, (2, ((582 : Nat) : Int)))] ⟨rfl, trivial⟩ ?_
        exact J38 s hv hW
      · have hW := hW.2 c207
        obtain ⟨h209, hW⟩ := hW
        refine ir_l (pc' := 12) rfl rfl rfl rfl rfl rfl ?_
        refine ir_vgr (pc' := 15) (c := 583) rfl rfl rfl rfl rfl hv ?_
        refine ir_l (pc' := 16) rfl rfl rfl rfl rfl rfl ?_
        refine ir_vgi (pc' := 19) rfl rfl rfl rfl rfl hv (fun r208 => ?_)
        refine ir_via (pc' := 20) rfl rfl vg_583 rfl (Nat.le_of_ble_eq_true rfl) hv rfl h209 (fun r210 => ?_)
        refine ir_k (pc' := 22) (v := (0, 32)) rfl rfl rfl (fun _ => rfl) ?_
        refine ir_c_ne (pt := 38) (pc' := 25) rfl rfl rfl (fun c211 => ?_) (fun c211 => ?_)
        · have hW := hW.1 c211
          refine ir_w [(0, (2, ((582 : Nat) : Int)))] ⟨rfl, trivial⟩ ?_
          exact J38 s hv hW
        · have hW := hW.2 c211
          obtain ⟨h213, hW⟩ := hW
          refine ir_l (pc' := 26) rfl rfl rfl rfl rfl rfl ?_
          refine ir_x (pc' := 27) rfl rfl rfl (fun _ => rfl) ?_
          refine ir_vgi (pc' := 30) rfl rfl rfl rfl rfl hv (fun r212 => ?_)
          refine ir_k (pc' := 31) (v := (0, 1)) rfl rfl rfl (fun _ => rfl) ?_
          refine ir_add (pc' := 32) rfl rfl h213.1 h213.2 ?_
          refine ir_vpi (pc' := 35) rfl rfl rfl rfl rfl rfl rfl hv h213 (fun s214 s214e s214v => ?_)
          have hW := hW s214 s214e
          refine ir_goto (pc' := 0) rfl rfl ?_
          refine ir_w [(0, (2, ((582 : Nat) : Int)))] ⟨rfl, trivial⟩ ?_
          exact ih0 s214 s214v hW.1 (Nat.lt_of_lt_of_le hW.2 (Nat.le_of_lt_succ hr0))
  unfold W_peek at hW
  refine ir_w [(0, (2, ((582 : Nat) : Int)))] ⟨rfl, trivial⟩ ?_
  obtain ⟨I9, r9, hI9, hB9⟩ := hW
  exact J0 I9 r9 hB9 _ s hv hI9 (Nat.lt_succ_self _)
def W_beginSum_88 (s : im_S) (Q : im_S → Prop) : Prop := (Q s)
def W_beginSum_2 (K2 : Int × im_S → Prop) (l1 : Int) (s : im_S) (Q : im_S → Prop) : Prop := ((9 ≤ l1 → ((0 ≤ (wgf s 21) ∧ (wgf s 21) < 12) ∧ (∀ s4, s4 = wpa s 593 (wgf s 21) 1 → ((0 ≤ (wgf s4 21) ∧ (wgf s4 21) < 12) ∧ (∀ s7, s7 = wpa s4 594 (wgf s4 21) (-1) → ((0 ≤ (wgf s7 21) ∧ (wgf s7 21) < 12) ∧ (∀ s10, s10 = wpa s7 595 (wgf s7 21) (-1) → (W_peek s10 (fun z12 s11 => ((¬ (z12 = 45) → (W_beginSum_88 s11 Q)) ∧ (z12 = 45 → ((0 ≤ (wgf s11 21) ∧ (wgf s11 21) < 12) ∧ (∀ s16, s16 = wpa s11 593 (wgf s11 21) (-1) → ((iR ((wgf s16 4) + 1)) ∧ (∀ s19, s19 = wpf s16 4 ((wgf s16 4) + 1) → (W_beginSum_88 s19 Q)))))))))))))))) ∧ (¬ (9 ≤ l1) → ((iR (9 * (wgf s 21))) ∧ (0 ≤ ((9 * (wgf s 21)) + l1) ∧ ((9 * (wgf s 21)) + l1) < 108) ∧ (∀ s24, s24 = wpa s 589 ((9 * (wgf s 21)) + l1) 0 → ((iR (l1 + 1)) ∧ (K2 ((l1 + 1), s24)))))))
def W_beginSum (s : im_S) (Q : im_S → Prop) : Prop := (wloop (fun (K : Int × im_S → Prop) (a : Int × im_S) => W_beginSum_2 K a.1 a.2 Q) (0, s))
set_option maxRecDepth 16384 in
theorem w_beginSum (L : Nat) (ys : Nat → Int32) (d : Nat) (s : im_S) (hv : vI s) (Q : im_S → Prop) (hW : W_beginSum s Q) : icV gG rm_P L ys (d + 2) 12 [(2, ((582 : Nat) : Int))] s (fun s9 => vI s9 ∧ Q s9) := by
  refine ic_startM (M := rm_p_X10_beginSum) om_X10_beginSum (Nat.le_of_ble_eq_true rfl) ?_
  refine ir_w [(0, (2, ((582 : Nat) : Int)))] ⟨rfl, trivial⟩ ?_
  have J88 : ∀ (s : im_S) (hv : vI s), W_beginSum_88 s Q → ir gG rm_P L ys (d + 1) rm_p_X10_beginSum (88, [], [], s) (fun r : im_Re => r.1 = none ∧ (vI r.2 ∧ Q r.2)) := by
    intro s hv hW
    unfold W_beginSum_88 at hW
    exact ir_vret rfl rfl ⟨rfl, hv, hW⟩
  have J2 : ∀ (I2 : Int × im_S → Prop) (r2 : Int × im_S → Nat) (hB2 : ∀ a : Int × im_S, I2 a → W_beginSum_2 (fun b => I2 b ∧ r2 b < r2 a) a.1 a.2 Q), ∀ n2 : Nat, ∀ (l1 : Int) (l1r : iR l1) (s : im_S) (hv : vI s), I2 (l1, s) → r2 (l1, s) < n2 → ir gG rm_P L ys (d + 1) rm_p_X10_beginSum (2, [(0, (2, ((582 : Nat) : Int))), (1, (0, l1))], [], s) (fun r : im_Re => r.1 = none ∧ (vI r.2 ∧ Q r.2)) := by
    intro I2 r2 hB2 n2
    induction n2 with
    | zero => intro l1 l1r s hv hI hr; exact absurd hr (Nat.not_lt_zero _)
    | succ n2 ih2 =>
      intro l1 l1r s hv hI hr2
      obtain ⟨t2, ht2⟩ : ∃ t2 : Int × im_S, t2 = (l1, s) := ⟨_, rfl⟩
      rw [← ht2] at hr2
      have hW : W_beginSum_2 (fun b => I2 b ∧ r2 b < r2 t2) l1 s Q := by have z := hB2 (l1, s) hI; rw [ht2]; exact z
      unfold W_beginSum_2 at hW
      refine ir_l (pc' := 3) rfl rfl rfl rfl rfl rfl ?_
      refine ir_k (pc' := 5) (v := (0, 9)) rfl rfl rfl (fun _ => rfl) ?_
      refine ir_c_ge (pt := 29) (pc' := 8) rfl rfl rfl (fun c1 => ?_) (fun c1 => ?_)
      · have hW := hW.1 c1
        obtain ⟨h3, hW⟩ := hW
        refine ir_l (pc' := 30) rfl rfl rfl rfl rfl rfl ?_
        refine ir_vgr (pc' := 33) (c := 593) rfl rfl rfl rfl rfl hv ?_
        refine ir_l (pc' := 34) rfl rfl rfl rfl rfl rfl ?_
        refine ir_vgi (pc' := 37) rfl rfl rfl rfl rfl hv (fun r2 => ?_)
        refine ir_k (pc' := 38) (v := (0, 1)) rfl rfl rfl (fun _ => rfl) ?_
        refine ir_vis (pc' := 39) rfl rfl vg_593 rfl (Nat.le_of_ble_eq_true rfl) hv rfl h3 (zR_i (Or.inr rfl)) (fun s4 s4e s4v => ?_)
        have hW := hW s4 s4e
        obtain ⟨h6, hW⟩ := hW
        refine ir_l (pc' := 40) rfl rfl rfl rfl rfl rfl ?_
        refine ir_vgr (pc' := 43) (c := 594) rfl rfl rfl rfl rfl s4v ?_
        refine ir_l (pc' := 44) rfl rfl rfl rfl rfl rfl ?_
        refine ir_vgi (pc' := 47) rfl rfl rfl rfl rfl s4v (fun r5 => ?_)
        refine ir_k (pc' := 48) (v := (0, (-1))) rfl rfl rfl (fun _ => rfl) ?_
        refine ir_vis (pc' := 49) rfl rfl vg_594 rfl (Nat.le_of_ble_eq_true rfl) s4v rfl h6 (⟨by decide, by decide⟩ : iR (-1)) (fun s7 s7e s7v => ?_)
        have hW := hW s7 s7e
        obtain ⟨h9, hW⟩ := hW
        refine ir_l (pc' := 50) rfl rfl rfl rfl rfl rfl ?_
        refine ir_vgr (pc' := 53) (c := 595) rfl rfl rfl rfl rfl s7v ?_
        refine ir_l (pc' := 54) rfl rfl rfl rfl rfl rfl ?_
        refine ir_vgi (pc' := 57) rfl rfl rfl rfl rfl s7v (fun r8 => ?_)
        refine ir_k (pc' := 58) (v := (0, (-1))) rfl rfl rfl (fun _ => rfl) ?_
        refine ir_vis (pc' := 59) rfl rfl vg_595 rfl (Nat.le_of_ble_eq_true rfl) s7v rfl h9 (⟨by decide, by decide⟩ : iR (-1)) (fun s10 s10e s10v => ?_)
        have hW := hW s10 s10e
        refine ir_l (pc' := 60) rfl rfl rfl rfl rfl rfl ?_
        refine ir_cVI (pc' := 63) rfl rfl rfl rfl rfl (Nat.le_of_ble_eq_true rfl) oo_X10_peek vg_582 (w_peek L ys d s10 s10v  _ hW) (fun z12 s11 hr => ?_)
        obtain ⟨s11v, z12r, hW⟩ := hr
        refine ir_k (pc' := 65) (v := (0, 45)) rfl rfl rfl (fun _ => rfl) ?_
        refine ir_c_ne (pt := 88) (pc' := 68) rfl rfl rfl (fun c13 => ?_) (fun c13 => ?_)
        · have hW := hW.1 c13
          refine ir_w [] trivial ?_
          exact J88 s11 s11v hW
        · have hW := hW.2 c13
          obtain ⟨h15, hW⟩ := hW
          refine ir_l (pc' := 69) rfl rfl rfl rfl rfl rfl ?_
          refine ir_vgr (pc' := 72) (c := 593) rfl rfl rfl rfl rfl s11v ?_
          refine ir_l (pc' := 73) rfl rfl rfl rfl rfl rfl ?_
          refine ir_vgi (pc' := 76) rfl rfl rfl rfl rfl s11v (fun r14 => ?_)
          refine ir_k (pc' := 77) (v := (0, (-1))) rfl rfl rfl (fun _ => rfl) ?_
          refine ir_vis (pc' := 78) rfl rfl vg_593 rfl (Nat.le_of_ble_eq_true rfl) s11v rfl h15 (⟨by decide, by decide⟩ : iR (-1)) (fun s16 s16e s16v => ?_)
          have hW := hW s16 s16e
          obtain ⟨h18, hW⟩ := hW
          refine ir_l (pc' := 79) rfl rfl rfl rfl rfl rfl ?_
          refine ir_x (pc' := 80) rfl rfl rfl (fun _ => rfl) ?_
          refine ir_vgi (pc' := 83) rfl rfl rfl rfl rfl s16v (fun r17 => ?_)
          refine ir_k (pc' := 84) (v := (0, 1)) rfl rfl rfl (fun _ => rfl) ?_
          refine ir_add (pc' := 85) rfl rfl h18.1 h18.2 ?_
          refine ir_vpi (pc' := 88) rfl rfl rfl rfl rfl rfl rfl s16v h18 (fun s19 s19e s19v => ?_)
          have hW := hW s19 s19e
          refine ir_w [] trivial ?_
          exact J88 s19 s19v hW
      · have hW := hW.2 c1
        obtain ⟨h21, h23, hW⟩ := hW
        have h22 : iR ((9 * (wgf s 21)) + l1) := ⟨by omega, by omega⟩
        refine ir_l (pc' := 9) rfl rfl rfl rfl rfl rfl ?_
        refine ir_vgr (pc' := 12) (c := 589) rfl rfl rfl rfl rfl hv ?_
        refine ir_k (pc' := 14) (v := (0, 9)) rfl rfl rfl (fun _ => rfl) ?_
        refine ir_l (pc' := 15) rfl rfl rfl rfl rfl rfl ?_
        refine ir_vgi (pc' := 18) rfl rfl rfl rfl rfl hv (fun r20 => ?_)
        refine ir_mul (pc' := 19) rfl rfl h21.1 h21.2 ?_
        refine ir_l (pc' := 20) rfl rfl rfl rfl rfl rfl ?_
        refine ir_add (pc' := 21) rfl rfl h22.1 h22.2 ?_
        refine ir_k (pc' := 22) (v := (1, 0)) rfl rfl rfl (fun _ => rfl) ?_
        refine ir_vls (pc' := 23) rfl rfl vg_589 rfl (Nat.le_of_ble_eq_true rfl) hv rfl h23 (⟨by decide, by decide⟩ : lR 0) (fun s24 s24e s24v => ?_)
        have hW := hW s24 s24e
        obtain ⟨h25, hW⟩ := hW
        refine ir_inc (pc' := 26) rfl rfl rfl rfl rfl h25.1 h25.2 ?_
        refine ir_goto (pc' := 2) rfl rfl ?_
        refine ir_w [(0, (2, ((582 : Nat) : Int))), (1, (0, (l1 + 1)))] ⟨rfl, rfl, trivial⟩ ?_
        exact ih2 (l1 + 1) h25 s24 s24v hW.1 (Nat.lt_of_lt_of_le hW.2 (Nat.le_of_lt_succ hr2))
  unfold W_beginSum at hW
  refine ir_k (pc' := 1) (v := (0, 0)) rfl rfl rfl (fun _ => rfl) ?_
  refine ir_s (pc' := 2) rfl rfl rfl rfl rfl rfl ?_
  refine ir_w [(0, (2, ((582 : Nat) : Int))), (1, (0, 0))] ⟨rfl, rfl, trivial⟩ ?_
  obtain ⟨I9, r9, hI9, hB9⟩ := hW
  exact J2 I9 r9 hB9 _ 0 (zR_i (Or.inl rfl)) s hv hI9 (Nat.lt_succ_self _)
def W_fail_17 (s : im_S) (Q : im_S → Prop) : Prop := (Q s)
def W_fail (l1 : Int) (l2 : Int) (s : im_S) (Q : im_S → Prop) : Prop := ((¬ ((wgf s 2) = 0) → (W_fail_17 s Q)) ∧ ((wgf s 2) = 0 → (∀ s3, s3 = wpf s 2 l1 → (∀ s4, s4 = wpf s3 3 l2 → (W_fail_17 s4 Q)))))
set_option maxRecDepth 16384 in
theorem w_fail (L : Nat) (ys : Nat → Int32) (d : Nat) (s : im_S) (hv : vI s) (l1 : Int) (l1r : iR l1) (l2 : Int) (l2r : iR l2) (Q : im_S → Prop) (hW : W_fail l1 l2 s Q) : icV gG rm_P L ys (d + 1) 35 [(2, ((582 : Nat) : Int)), (0, l1), (0, l2)] s (fun s9 => vI s9 ∧ Q s9) := by
  refine ic_startM (M := rm_p_X10_fail) om_X10_fail (Nat.le_of_ble_eq_true rfl) ?_
  refine ir_w [(0, (2, ((582 : Nat) : Int))), (1, (0, l1)), (2, (0, l2))] ⟨rfl, rfl, rfl, trivial⟩ ?_
  have J17 : ∀ (s : im_S) (hv : vI s), W_fail_17 s Q → ir gG rm_P L ys d rm_p_X10_fail (17, [], [], s) (fun r : im_Re => r.1 = none ∧ (vI r.2 ∧ Q r.2)) := by
    intro s hv hW
    unfold W_fail_17 at hW
    exact ir_vret rfl rfl ⟨rfl, hv, hW⟩
  unfold W_fail at hW
  refine ir_l (pc' := 1) rfl rfl rfl rfl rfl rfl ?_
  refine ir_vgi (pc' := 4) rfl rfl rfl rfl rfl hv (fun r1 => ?_)
  refine ir_z_ne (pt := 17) (pc' := 7) rfl rfl rfl (fun c2 => ?_) (fun c2 => ?_)
  · have hW := hW.1 c2
    refine ir_w [] trivial ?_
    exact J17 s hv hW
  · have hW := hW.2 c2
    refine ir_l (pc' := 8) rfl rfl rfl rfl rfl rfl ?_
    refine ir_l (pc' := 9) rfl rfl rfl rfl rfl rfl ?_
    refine ir_vpi (pc' := 12) rfl rfl rfl rfl rfl rfl rfl hv l1r (fun s3 s3e s3v => ?_)
    have hW := hW s3 s3e
    refine ir_l (pc' := 13) rfl rfl rfl rfl rfl rfl ?_
    refine ir_l (pc' := 14) rfl rfl rfl rfl rfl rfl ?_
    refine ir_vpi (pc' := 17) rfl rfl rfl rfl rfl rfl rfl s3v l2r (fun s4 s4e s4v => ?_)
    have hW := hW s4 s4e
    refine ir_w [] trivial ?_
    exact J17 s4 s4v hW
def W_isDigit (l0 : Int) (s : im_S) (Q : Int → im_S → Prop) : Prop := (∀ v201 : Int, v201 = (if l0 < 48 then 0 else (if 57 < l0 then 0 else 1)) → (Q v201 s))
set_option maxRecDepth 16384 in
theorem w_isDigit (L : Nat) (ys : Nat → Int32) (d : Nat) (s : im_S) (hv : vI s) (l0 : Int) (l0r : iR l0) (Q : Int → im_S → Prop) (hW : W_isDigit l0 s Q) : icI gG rm_P L ys 0 (d + 1) 52 [(0, l0)] s (fun z9 s9 => vI s9 ∧ zR z9 ∧ Q z9 s9) := by
  refine ic_startM (M := rm_p_X10_isDigit) om_X10_isDigit (Nat.le_of_ble_eq_true rfl) ?_
  refine ir_w [(0, (0, l0))] ⟨rfl, trivial⟩ ?_
  unfold W_isDigit at hW
  refine ir_l (pc' := 1) rfl rfl rfl rfl rfl rfl ?_
  refine ir_k (pc' := 3) (v := (0, 48)) rfl rfl rfl (fun _ => rfl) ?_
  have J202 : ∀ v201 : Int, zR v201 → ((Q v201 s)) → ir gG rm_P L ys d rm_p_X10_isDigit (17, [], [(0, v201)], s) (fun r : im_Re => ∃ z, r.1 = some (0, z) ∧ (vI r.2 ∧ zR z ∧ Q z r.2)) := by
    intro v201 v201r hW
    exact ir_zret rfl rfl v201r ⟨_, rfl, hv, v201r, hW⟩
  refine ir_c_lt (pt := 16) (pc' := 6) rfl rfl rfl (fun c1 => ?_) (fun c1 => ?_)
  · refine ir_k (pc' := 17) (v := (0, 0)) rfl rfl rfl (fun _ => rfl) ?_
    refine ir_w [] trivial ?_
    exact J202 0 (Or.inl rfl) (hW _ (by rw [if_pos c1]))
  · refine ir_l (pc' := 7) rfl rfl rfl rfl rfl rfl ?_
    refine ir_k (pc' := 9) (v := (0, 57)) rfl rfl rfl (fun _ => rfl) ?_
    refine ir_c_gt (pt := 16) (pc' := 12) rfl rfl rfl (fun c2 => ?_) (fun c2 => ?_)
    · refine ir_k (pc' := 17) (v := (0, 0)) rfl rfl rfl (fun _ => rfl) ?_
      refine ir_w [] trivial ?_
      exact J202 0 (Or.inl rfl) (hW _ (by rw [if_neg (fun z => c1 z), if_pos c2]))
    · refine ir_k (pc' := 13) (v := (0, 1)) rfl rfl rfl (fun _ => rfl) ?_
      refine ir_goto (pc' := 17) rfl rfl ?_
      refine ir_w [] trivial ?_
      exact J202 1 (Or.inr rfl) (hW _ (by rw [if_neg (fun z => c1 z), if_neg (fun z => c2 z)]))
def W_isToken_102 (k0 : Int) (s : im_S) (Q : Int → im_S → Prop) : Prop := (Q k0 s)
def W_isToken_97 (s : im_S) (Q : Int → im_S → Prop) : Prop := (W_isToken_102 1 s Q)
def W_isToken (l0 : Int) (s : im_S) (Q : Int → im_S → Prop) : Prop := (W_isDigit l0 s (fun z2 s1 => ((¬ (z2 = 0) → (W_isToken_97 s1 Q)) ∧ (z2 = 0 → ((l0 = 124 → (W_isToken_97 s1 Q)) ∧ (¬ (l0 = 124) → ((l0 = 38 → (W_isToken_97 s1 Q)) ∧ (¬ (l0 = 38) → ((l0 = 126 → (W_isToken_97 s1 Q)) ∧ (¬ (l0 = 126) → ((l0 = 91 → (W_isToken_97 s1 Q)) ∧ (¬ (l0 = 91) → ((l0 = 93 → (W_isToken_97 s1 Q)) ∧ (¬ (l0 = 93) → ((l0 = 61 → (W_isToken_97 s1 Q)) ∧ (¬ (l0 = 61) → ((l0 = 60 → (W_isToken_97 s1 Q)) ∧ (¬ (l0 = 60) → ((l0 = 62 → (W_isToken_97 s1 Q)) ∧ (¬ (l0 = 62) → (∀ v212 : Int, v212 = (if l0 = 45 then 1 else (if l0 = 43 then 1 else (if l0 = 42 then 1 else (if l0 = 94 then 1 else (if l0 = 120 then 1 else (if l0 = 40 then 1 else (if ¬ (l0 = 41) then 0 else 1))))))) → (W_isToken_102 v212 s1 Q))))))))))))))))))))))
set_option maxRecDepth 16384 in
theorem w_isToken (L : Nat) (ys : Nat → Int32) (d : Nat) (s : im_S) (hv : vI s) (l0 : Int) (l0r : iR l0) (Q : Int → im_S → Prop) (hW : W_isToken l0 s Q) : icI gG rm_P L ys 0 (d + 2) 58 [(0, l0)] s (fun z9 s9 => vI s9 ∧ zR z9 ∧ Q z9 s9) := by
  refine ic_startM (M := rm_p_X10_isToken) om_X10_isToken (Nat.le_of_ble_eq_true rfl) ?_
  refine ir_w [(0, (0, l0))] ⟨rfl, trivial⟩ ?_
  have J102 : ∀ (k0 : Int) (k0r : zR k0) (s : im_S) (hv : vI s), W_isToken_102 k0 s Q → ir gG rm_P L ys (d + 1) rm_p_X10_isToken (102, [], [(0, k0)], s) (fun r : im_Re => ∃ z, r.1 = some (0, z) ∧ (vI r.2 ∧ zR z ∧ Q z r.2)) := by
    intro k0 k0r s hv hW
    unfold W_isToken_102 at hW
    exact ir_zret rfl rfl k0r ⟨_, rfl, hv, k0r, hW⟩
  have J97 : ∀ (s : im_S) (hv : vI s), W_isToken_97 s Q → ir gG rm_P L ys (d + 1) rm_p_X10_isToken (97, [], [], s) (fun r : im_Re => ∃ z, r.1 = some (0, z) ∧ (vI r.2 ∧ zR z ∧ Q z r.2)) := by
    intro s hv hW
    unfold W_isToken_97 at hW
    refine ir_k (pc' := 98) (v := (0, 1)) rfl rfl rfl (fun _ => rfl) ?_
    refine ir_goto (pc' := 102) rfl rfl ?_
    refine ir_w [] trivial ?_
    exact J102 1 (Or.inr rfl) s hv hW
  unfold W_isToken at hW
  refine ir_l (pc' := 1) rfl rfl rfl rfl rfl rfl ?_
  refine ir_cSI (pc' := 4) rfl rfl rfl rfl rfl rfl (Nat.le_of_ble_eq_true rfl) (w_isDigit L ys d s hv l0 l0r _ hW) (fun z2 s1 hr => ?_)
  obtain ⟨s1v, z2r, hW⟩ := hr
  refine ir_z_ne (pt := 97) (pc' := 7) rfl rfl rfl (fun c3 => ?_) (fun c3 => ?_)
  · have hW := hW.1 c3
    refine ir_w [] trivial ?_
    exact J97 s1 s1v hW
  · have hW := hW.2 c3
    refine ir_l (pc' := 8) rfl rfl rfl rfl rfl rfl ?_
    refine ir_k (pc' := 10) (v := (0, 124)) rfl rfl rfl (fun _ => rfl) ?_
    refine ir_c_eq (pt := 97) (pc' := 13) rfl rfl rfl (fun c4 => ?_) (fun c4 => ?_)
    · have hW := hW.1 c4
      refine ir_w [] trivial ?_
      exact J97 s1 s1v hW
    · have hW := hW.2 c4
      refine ir_l (pc' := 14) rfl rfl rfl rfl rfl rfl ?_
      refine ir_k (pc' := 16) (v := (0, 38)) rfl rfl rfl (fun _ => rfl) ?_
      refine ir_c_eq (pt := 97) (pc' := 19) rfl rfl rfl (fun c5 => ?_) (fun c5 => ?_)
      · have hW := hW.1 c5
        refine ir_w [] trivial ?_
        exact J97 s1 s1v hW
      · have hW := hW.2 c5
        refine ir_l (pc' := 20) rfl rfl rfl rfl rfl rfl ?_
        refine ir_k (pc' := 22) (v := (0, 126)) rfl rfl rfl (fun _ => rfl) ?_
        refine ir_c_eq (pt := 97) (pc' := 25) rfl rfl rfl (fun c6 => ?_) (fun c6 => ?_)
        · have hW := hW.1 c6
          refine ir_w [] trivial ?_
          exact J97 s1 s1v hW
        · have hW := hW.2 c6
          refine ir_l (pc' := 26) rfl rfl rfl rfl rfl rfl ?_
          refine ir_k (pc' := 28) (v := (0, 91)) rfl rfl rfl (fun _ => rfl) ?_
          refine ir_c_eq (pt := 97) (pc' := 31) rfl rfl rfl (fun c7 => ?_) (fun c7 => ?_)
          · have hW := hW.1 c7
            refine ir_w [] trivial ?_
            exact J97 s1 s1v hW
          · have hW := hW.2 c7
            refine ir_l (pc' := 32) rfl rfl rfl rfl rfl rfl ?_
            refine ir_k (pc' := 34) (v := (0, 93)) rfl rfl rfl (fun _ => rfl) ?_
            refine ir_c_eq (pt := 97) (pc' := 37) rfl rfl rfl (fun c8 => ?_) (fun c8 => ?_)
            · have hW := hW.1 c8
              refine ir_w [] trivial ?_
              exact J97 s1 s1v hW
            · have hW := hW.2 c8
              refine ir_l (pc' := 38) rfl rfl rfl rfl rfl rfl ?_
              refine ir_k (pc' := 40) (v := (0, 61)) rfl rfl rfl (fun _ => rfl) ?_
              refine ir_c_eq (pt := 97) (pc' := 43) rfl rfl rfl (fun c9 => ?_) (fun c9 => ?_)
              · have hW := hW.1 c9
                refine ir_w [] trivial ?_
                exact J97 s1 s1v hW
              · have hW := hW.2 c9
                refine ir_l (pc' := 44) rfl rfl rfl rfl rfl rfl ?_
                refine ir_k (pc' := 46) (v := (0, 60)) rfl rfl rfl (fun _ => rfl) ?_
                refine ir_c_eq (pt := 97) (pc' := 49) rfl rfl rfl (fun c10 => ?_) (fun c10 => ?_)
                · have hW := hW.1 c10
                  refine ir_w [] trivial ?_
                  exact J97 s1 s1v hW
                · have hW := hW.2 c10
                  refine ir_l (pc' := 50) rfl rfl rfl rfl rfl rfl ?_
                  refine ir_k (pc' := 52) (v := (0, 62)) rfl rfl rfl (fun _ => rfl) ?_
                  refine ir_c_eq (pt := 97) (pc' := 55) rfl rfl rfl (fun c11 => ?_) (fun c11 => ?_)
                  · have hW := hW.1 c11
                    refine ir_w [] trivial ?_
                    exact J97 s1 s1v hW
                  · have hW := hW.2 c11
                    refine ir_l (pc' := 56) rfl rfl rfl rfl rfl rfl ?_
                    refine ir_k (pc' := 58) (v := (0, 45)) rfl rfl rfl (fun _ => rfl) ?_
                    have J213 : ∀ v212 : Int, zR v212 → ((W_isToken_102 v212 s1 Q)) → ir gG rm_P L ys (d + 1) rm_p_X10_isToken (102, [], [(0, v212)], s1) (fun r : im_Re => ∃ z, r.1 = some (0, z) ∧ (vI r.2 ∧ zR z ∧ Q z r.2)) := by
                      intro v212 v212r hW
                      refine ir_w [] trivial ?_
                      exact J102 v212 v212r s1 s1v hW
                    refine ir_c_eq (pt := 97) (pc' := 61) rfl rfl rfl (fun c12 => ?_) (fun c12 => ?_)
                    · refine ir_k (pc' := 98) (v := (0, 1)) rfl rfl rfl (fun _ => rfl) ?_
                      refine ir_goto (pc' := 102) rfl rfl ?_
                      refine ir_w [] trivial ?_
                      exact J213 1 (Or.inr rfl) (hW _ (by rw [if_pos c12]))
                    · refine ir_l (pc' := 62) rfl rfl rfl rfl rfl rfl ?_
                      refine ir_k (pc' := 64) (v := (0, 43)) rfl rfl rfl (fun _ => rfl) ?_
                      refine ir_c_eq (pt := 97) (pc' := 67) rfl rfl rfl (fun c13 => ?_) (fun c13 => ?_)
                      · refine ir_k (pc' := 98) (v := (0, 1)) rfl rfl rfl (fun _ => rfl) ?_
                        refine ir_goto (pc' := 102) rfl rfl ?_
                        refine ir_w [] trivial ?_
                        exact J213 1 (Or.inr rfl) (hW _ (by rw [if_neg (fun z => c12 z), if_pos c13]))
                      · refine ir_l (pc' := 68) rfl rfl rfl rfl rfl rfl ?_
                        refine ir_k (pc' := 70) (v := (0, 42)) rfl rfl rfl (fun _ => rfl) ?_
                        refine ir_c_eq (pt := 97) (pc' := 73) rfl rfl rfl (fun c14 => ?_) (fun c14 => ?_)
                        · refine ir_k (pc' := 98) (v := (0, 1)) rfl rfl rfl (fun _ => rfl) ?_
                          refine ir_goto (pc' := 102) rfl rfl ?_
                          refine ir_w [] trivial ?_
                          exact J213 1 (Or.inr rfl) (hW _ (by rw [if_neg (fun z => c12 z), if_neg (fun z => c13 z), if_pos c14]))
                        · refine ir_l (pc' := 74) rfl rfl rfl rfl rfl rfl ?_
                          refine ir_k (pc' := 76) (v := (0, 94)) rfl rfl rfl (fun _ => rfl) ?_
                          refine ir_c_eq (pt := 97) (pc' := 79) rfl rfl rfl (fun c15 => ?_) (fun c15 => ?_)
                          · refine ir_k (pc' := 98) (v := (0, 1)) rfl rfl rfl (fun _ => rfl) ?_
                            refine ir_goto (pc' := 102) rfl rfl ?_
                            refine ir_w [] trivial ?_
                            exact J213 1 (Or.inr rfl) (hW _ (by rw [if_neg (fun z => c12 z), if_neg (fun z => c13 z), if_neg (fun z => c14 z), if_pos c15]))
                          · refine ir_l (pc' := 80) rfl rfl rfl rfl rfl rfl ?_
                            refine ir_k (pc' := 82) (v := (0, 120)) rfl rfl rfl (fun _ => rfl) ?_
                            refine ir_c_eq (pt := 97) (pc' := 85) rfl rfl rfl (fun c16 => ?_) (fun c16 => ?_)
                            · refine ir_k (pc' := 98) (v := (0, 1)) rfl rfl rfl (fun _ => rfl) ?_
                              refine ir_goto (pc' := 102) rfl rfl ?_
                              refine ir_w [] trivial ?_
                              exact J213 1 (Or.inr rfl) (hW _ (by rw [if_neg (fun z => c12 z), if_neg (fun z => c13 z), if_neg (fun z => c14 z), if_neg (fun z => c15 z), if_pos c16]))
                            · refine ir_l (pc' := 86) rfl rfl rfl rfl rfl rfl ?_
                              refine ir_k (pc' := 88) (v := (0, 40)) rfl rfl rfl (fun _ => rfl) ?_
                              refine ir_c_eq (pt := 97) (pc' := 91) rfl rfl rfl (fun c17 => ?_) (fun c17 => ?_)
                              · refine ir_k (pc' := 98) (v := (0, 1)) rfl rfl rfl (fun _ => rfl) ?_
                                refine ir_goto (pc' := 102) rfl rfl ?_
                                refine ir_w [] trivial ?_
                                exact J213 1 (Or.inr rfl) (hW _ (by rw [if_neg (fun z => c12 z), if_neg (fun z => c13 z), if_neg (fun z => c14 z), if_neg (fun z => c15 z), if_neg (fun z => c16 z), if_pos c17]))
                              · refine ir_l (pc' := 92) rfl rfl rfl rfl rfl rfl ?_
                                refine ir_k (pc' := 94) (v := (0, 41)) rfl rfl rfl (fun _ => rfl) ?_
                                refine ir_c_ne (pt := 101) (pc' := 97) rfl rfl rfl (fun c18 => ?_) (fun c18 => ?_)
                                · refine ir_k (pc' := 102) (v := (0, 0)) rfl rfl rfl (fun _ => rfl) ?_
                                  refine ir_w [] trivial ?_
                                  exact J213 0 (Or.inl rfl) (hW _ (by rw [if_neg (fun z => c12 z), if_neg (fun z => c13 z), if_neg (fun z => c14 z), if_neg (fun z => c15 z), if_neg (fun z => c16 z), if_neg (fun z => c17 z), if_pos c18]))
                                · refine ir_k (pc' := 98) (v := (0, 1)) rfl rfl rfl (fun _ => rfl) ?_
                                  refine ir_goto (pc' := 102) rfl rfl ?_
                                  refine ir_w [] trivial ?_
                                  exact J213 1 (Or.inr rfl) (hW _ (by rw [if_neg (fun z => c12 z), if_neg (fun z => c13 z), if_neg (fun z => c14 z), if_neg (fun z => c15 z), if_neg (fun z => c16 z), if_neg (fun z => c17 z), if_neg (by omega)]))
