/-! THE REFERENCE LIFTED, by program -/
def W_findTimes_112 (K26 : Int × im_S → Prop) (K36 : Int × im_S → Prop) (l1 : Int) (l2 : Int) (l3 : Int) (l4 : Int) (s : im_S) (Q : im_S → Prop) : Prop := (W_giveBack l3 l4 s (fun s1 => ((iR (l2 + 1)) ∧ (K36 ((l2 + 1), s1)))))
def W_findTimes_36 (K26 : Int × im_S → Prop) (K36 : Int × im_S → Prop) (l1 : Int) (l2 : Int) (s : im_S) (Q : im_S → Prop) : Prop := (((wgf s 36) ≤ l2 → ((iR (l1 + 1)) ∧ (K26 ((l1 + 1), s)))) ∧ (¬ ((wgf s 36) ≤ l2) → ((0 ≤ l1 ∧ l1 < 200) ∧ (0 ≤ l2 ∧ l2 < 90) ∧ (W_common2 (wga s 602 l1) (wga s 603 l2) s (fun z14 s13 => ((0 ≤ z14 ∧ z14 < 1200) ∧ (0 ≤ l1 ∧ l1 < 200) ∧ (0 ≤ (wga s13 602 l1) ∧ (wga s13 602 l1) < 1200) ∧ ((¬ ((wga s13 598 z14) = (wga s13 598 (wga s13 602 l1))) → (W_findTimes_112 K26 K36 l1 l2 (wgf s 28) (wgf s 24) s13 Q)) ∧ ((wga s13 598 z14) = (wga s13 598 (wga s13 602 l1)) → ((iR (10 * l1)) ∧ (0 ≤ l2 ∧ l2 < 90) ∧ (0 ≤ ((10 * l1) + (wga s13 604 l2)) ∧ ((10 * l1) + (wga s13 604 l2)) < 2000) ∧ (∀ s28, s28 = wpa s13 606 ((10 * l1) + (wga s13 604 l2)) (wga s13 605 l2) → (W_findTimes_112 K26 K36 l1 l2 (wgf s 28) (wgf s 24) s28 Q)))))))))))
def W_findTimes_26 (K26 : Int × im_S → Prop) (l1 : Int) (s : im_S) (Q : im_S → Prop) : Prop := (((wgf s 34) ≤ l1 → (Q s)) ∧ (¬ ((wgf s 34) ≤ l1) → (wloop (fun (K : Int × im_S → Prop) (a : Int × im_S) => W_findTimes_36 K26 K l1 a.1 a.2 Q) (0, s))))
def W_findTimes_2 (K2 : Int × im_S → Prop) (l1 : Int) (s : im_S) (Q : im_S → Prop) : Prop := ((2000 ≤ l1 → (wloop (fun (K : Int × im_S → Prop) (a : Int × im_S) => W_findTimes_26 K a.1 a.2 Q) (0, s))) ∧ (¬ (2000 ≤ l1) → ((0 ≤ l1 ∧ l1 < 2000) ∧ (∀ s33, s33 = wpa s 606 l1 0 → ((iR (l1 + 1)) ∧ (K2 ((l1 + 1), s33)))))))
def W_findTimes (s : im_S) (Q : im_S → Prop) : Prop := (wloop (fun (K : Int × im_S → Prop) (a : Int × im_S) => W_findTimes_2 K a.1 a.2 Q) (0, s))
set_option maxRecDepth 16384 in
theorem w_findTimes (L : Nat) (ys : Nat → Int32) (d : Nat) (s : im_S) (hv : vI s) (Q : im_S → Prop) (hW : W_findTimes s Q) : icV gG rm_P L ys (d + 10) 38 [(2, ((582 : Nat) : Int))] s (fun s9 => vI s9 ∧ Q s9) := by
  refine ic_startM (M := rm_p_X10_findTimes) om_X10_findTimes (Nat.le_of_ble_eq_true rfl) ?_
  refine ir_w [(0, (2, ((582 : Nat) : Int)))] ⟨rfl, trivial⟩ ?_
  have J26 : ∀ (I26 : Int × im_S → Prop) (r26 : Int × im_S → Nat) (hB26 : ∀ a : Int × im_S, I26 a → W_findTimes_26 (fun b => I26 b ∧ r26 b < r26 a) a.1 a.2 Q), ∀ n26 : Nat, ∀ (l1 : Int) (l1r : iR l1) (s : im_S) (hv : vI s), I26 (l1, s) → r26 (l1, s) < n26 → ir gG rm_P L ys (d + 9) rm_p_X10_findTimes (26, [(0, (2, ((582 : Nat) : Int))), (1, (0, l1))], [], s) (fun r : im_Re => r.1 = none ∧ (vI r.2 ∧ Q r.2)) := by
    intro I26 r26 hB26 n26
    induction n26 with
    | zero => intro l1 l1r s hv hI hr; exact absurd hr (Nat.not_lt_zero _)
    | succ n26 ih26 =>
      intro l1 l1r s hv hI hr26
      obtain ⟨t26, ht26⟩ : ∃ t26 : Int × im_S, t26 = (l1, s) := ⟨_, rfl⟩
      rw [← ht26] at hr26
      have hW : W_findTimes_26 (fun b => I26 b ∧ r26 b < r26 t26) l1 s Q := by have z := hB26 (l1, s) hI; rw [ht26]; exact z
      have J36 : ∀ (l1 : Int) (l1r : iR l1) (I36 : Int × im_S → Prop) (r36 : Int × im_S → Nat) (hB36 : ∀ a : Int × im_S, I36 a → W_findTimes_36 (fun b => I26 b ∧ r26 b < r26 t26) (fun b => I36 b ∧ r36 b < r36 a) l1 a.1 a.2 Q), ∀ n36 : Nat, ∀ (l2 : Int) (l2r : iR l2) (s : im_S) (hv : vI s), I36 (l2, s) → r36 (l2, s) < n36 → ir gG rm_P L ys (d + 9) rm_p_X10_findTimes (36, [(0, (2, ((582 : Nat) : Int))), (1, (0, l1)), (2, (0, l2))], [], s) (fun r : im_Re => r.1 = none ∧ (vI r.2 ∧ Q r.2)) := by
        intro l1 l1r I36 r36 hB36 n36
        induction n36 with
        | zero => intro l2 l2r s hv hI hr; exact absurd hr (Nat.not_lt_zero _)
        | succ n36 ih36 =>
          intro l2 l2r s hv hI hr36
          obtain ⟨t36, ht36⟩ : ∃ t36 : Int × im_S, t36 = (l2, s) := ⟨_, rfl⟩
          rw [← ht36] at hr36
          have hW : W_findTimes_36 (fun b => I26 b ∧ r26 b < r26 t26) (fun b => I36 b ∧ r36 b < r36 t36) l1 l2 s Q := by have z := hB36 (l2, s) hI; rw [ht36]; exact z
          have J112 : ∀ (l2 : Int) (l2r : iR l2) (l3 : Int) (l3r : iR l3) (l4 : Int) (l4r : iR l4) (s : im_S) (hv : vI s), W_findTimes_112 (fun b => I26 b ∧ r26 b < r26 t26) (fun b => I36 b ∧ r36 b < r36 t36) l1 l2 l3 l4 s Q → ir gG rm_P L ys (d + 9) rm_p_X10_findTimes (112, [(0, (2, ((582 : Nat) : Int))), (1, (0, l1)), (2, (0, l2)), (3, (0, l3)), (4, (0, l4))], [], s) (fun r : im_Re => r.1 = none ∧ (vI r.2 ∧ Q r.2)) := by
            intro l2 l2r l3 l3r l4 l4r s hv hW
            unfold W_findTimes_112 at hW
            refine ir_l (pc' := 113) rfl rfl rfl rfl rfl rfl ?_
            refine ir_l (pc' := 114) rfl rfl rfl rfl rfl rfl ?_
            refine ir_l (pc' := 116) rfl rfl rfl rfl rfl rfl ?_
            refine ir_cVV (pc' := 119) rfl rfl rfl rfl rfl (Nat.le_of_ble_eq_true rfl) oo_X10_giveBack vg_582 (w_giveBack L ys (d + 8) s hv l3 l3r l4 l4r _ hW) (fun s1 hr => ?_)
            obtain ⟨s1v, hW⟩ := hr
            obtain ⟨h3, hW⟩ := hW
            refine ir_inc (pc' := 122) rfl rfl rfl rfl rfl h3.1 h3.2 ?_
            refine ir_goto (pc' := 36) rfl rfl ?_
            refine ir_w [(0, (2, ((582 : Nat) : Int))), (1, (0, l1)), (2, (0, (l2 + 1)))] ⟨rfl, rfl, rfl, trivial⟩ ?_
            exact ih36 (l2 + 1) h3 s1 s1v hW.1 (Nat.lt_of_lt_of_le hW.2 (Nat.le_of_lt_succ hr36))
          unfold W_findTimes_36 at hW
          refine ir_l (pc' := 37) rfl rfl rfl rfl rfl rfl ?_
          refine ir_l (pc' := 38) rfl rfl rfl rfl rfl rfl ?_
          refine ir_vgi (pc' := 41) rfl rfl rfl rfl rfl hv (fun r4 => ?_)
          refine ir_c_ge (pt := 125) (pc' := 44) rfl rfl rfl (fun c5 => ?_) (fun c5 => ?_)
          · have hW := hW.1 c5
            obtain ⟨h6, hW⟩ := hW
            refine ir_inc (pc' := 128) rfl rfl rfl rfl rfl h6.1 h6.2 ?_
            refine ir_goto (pc' := 26) rfl rfl ?_
            refine ir_w [(0, (2, ((582 : Nat) : Int))), (1, (0, (l1 + 1)))] ⟨rfl, rfl, trivial⟩ ?_
            exact ih26 (l1 + 1) h6 s hv hW.1 (Nat.lt_of_lt_of_le hW.2 (Nat.le_of_lt_succ hr26))
          · have hW := hW.2 c5
            obtain ⟨h9, h11, hW⟩ := hW
            refine ir_l (pc' := 45) rfl rfl rfl rfl rfl rfl ?_
            refine ir_vgi (pc' := 48) rfl rfl rfl rfl rfl hv (fun r7 => ?_)
            refine ir_s (pc' := 49) rfl rfl rfl rfl rfl rfl ?_
            refine ir_l (pc' := 50) rfl rfl rfl rfl rfl rfl ?_
            refine ir_vgi (pc' := 53) rfl rfl rfl rfl rfl hv (fun r8 => ?_)
            refine ir_s (pc' := 55) rfl rfl rfl rfl rfl rfl ?_
            refine ir_l (pc' := 56) rfl rfl rfl rfl rfl rfl ?_
            refine ir_vgr (pc' := 59) (c := 598) rfl rfl rfl rfl rfl hv ?_
            refine ir_l (pc' := 60) rfl rfl rfl rfl rfl rfl ?_
            refine ir_l (pc' := 61) rfl rfl rfl rfl rfl rfl ?_
            refine ir_vgr (pc' := 64) (c := 602) rfl rfl rfl rfl rfl hv ?_
            refine ir_l (pc' := 65) rfl rfl rfl rfl rfl rfl ?_
            refine ir_via (pc' := 66) rfl rfl vg_602 rfl (Nat.le_of_ble_eq_true rfl) hv rfl h9 (fun r10 => ?_)
            refine ir_l (pc' := 67) rfl rfl rfl rfl rfl rfl ?_
            refine ir_vgr (pc' := 70) (c := 603) rfl rfl rfl rfl rfl hv ?_
            refine ir_l (pc' := 71) rfl rfl rfl rfl rfl rfl ?_
            refine ir_via (pc' := 72) rfl rfl vg_603 rfl (Nat.le_of_ble_eq_true rfl) hv rfl h11 (fun r12 => ?_)
            refine ir_cVI (pc' := 75) rfl rfl rfl rfl rfl (Nat.le_of_ble_eq_true rfl) oo_X10_common2 vg_582 (w_common2 L ys d s hv (wga s 602 l1) r10 (wga s 603 l2) r12 _ hW) (fun z14 s13 hr => ?_)
            obtain ⟨s13v, z14r, hW⟩ := hr
            obtain ⟨h15, h17, h19, hW⟩ := hW
            refine ir_via (pc' := 76) rfl rfl vg_598 rfl (Nat.le_of_ble_eq_true rfl) s13v rfl h15 (fun r16 => ?_)
            refine ir_l (pc' := 77) rfl rfl rfl rfl rfl rfl ?_
            refine ir_vgr (pc' := 80) (c := 598) rfl rfl rfl rfl rfl s13v ?_
            refine ir_l (pc' := 81) rfl rfl rfl rfl rfl rfl ?_
            refine ir_vgr (pc' := 84) (c := 602) rfl rfl rfl rfl rfl s13v ?_
            refine ir_l (pc' := 85) rfl rfl rfl rfl rfl rfl ?_
            refine ir_via (pc' := 86) rfl rfl vg_602 rfl (Nat.le_of_ble_eq_true rfl) s13v rfl h17 (fun r18 => ?_)
            refine ir_via (pc' := 87) rfl rfl vg_598 rfl (Nat.le_of_ble_eq_true rfl) s13v rfl h19 (fun r20 => ?_)
            refine ir_c_ne (pt := 112) (pc' := 90) rfl rfl rfl (fun c21 => ?_) (fun c21 => ?_)
            · have hW := hW.1 c21
              refine ir_w [(0, (2, ((582 : Nat) : Int))), (1, (0, l1)), (2, (0, l2)), (3, (0, (wgf s 28))), (4, (0, (wgf s 24)))] ⟨rfl, rfl, rfl, rfl, rfl, trivial⟩ ?_
              exact J112 l2 l2r (wgf s 28) r7 (wgf s 24) r8 s13 s13v hW
            · have hW := hW.2 c21
              obtain ⟨h22, h23, h27, hW⟩ := hW
              have h25 : iR ((10 * l1) + (wga s13 604 l2)) := ⟨by omega, by omega⟩
              refine ir_l (pc' := 91) rfl rfl rfl rfl rfl rfl ?_
              refine ir_vgr (pc' := 94) (c := 606) rfl rfl rfl rfl rfl s13v ?_
              refine ir_k (pc' := 96) (v := (0, 10)) rfl rfl rfl (fun _ => rfl) ?_
              refine ir_l (pc' := 97) rfl rfl rfl rfl rfl rfl ?_
              refine ir_mul (pc' := 98) rfl rfl h22.1 h22.2 ?_
              refine ir_l (pc' := 99) rfl rfl rfl rfl rfl rfl ?_
              refine ir_vgr (pc' := 102) (c := 604) rfl rfl rfl rfl rfl s13v ?_
              refine ir_l (pc' := 103) rfl rfl rfl rfl rfl rfl ?_
              refine ir_via (pc' := 104) rfl rfl vg_604 rfl (Nat.le_of_ble_eq_true rfl) s13v rfl h23 (fun r24 => ?_)
              refine ir_add (pc' := 105) rfl rfl h25.1 h25.2 ?_
              refine ir_l (pc' := 106) rfl rfl rfl rfl rfl rfl ?_
              refine ir_vgr (pc' := 109) (c := 605) rfl rfl rfl rfl rfl s13v ?_
              refine ir_l (pc' := 110) rfl rfl rfl rfl rfl rfl ?_
              refine ir_via (pc' := 111) rfl rfl vg_605 rfl (Nat.le_of_ble_eq_true rfl) s13v rfl h23 (fun r26 => ?_)
              refine ir_vis (pc' := 112) rfl rfl vg_606 rfl (Nat.le_of_ble_eq_true rfl) s13v rfl h27 r26 (fun s28 s28e s28v => ?_)
              have hW := hW s28 s28e
              refine ir_w [(0, (2, ((582 : Nat) : Int))), (1, (0, l1)), (2, (0, l2)), (3, (0, (wgf s 28))), (4, (0, (wgf s 24)))] ⟨rfl, rfl, rfl, rfl, rfl, trivial⟩ ?_
              exact J112 l2 l2r (wgf s 28) r7 (wgf s 24) r8 s28 s28v hW
      unfold W_findTimes_26 at hW
      refine ir_l (pc' := 27) rfl rfl rfl rfl rfl rfl ?_
      refine ir_l (pc' := 28) rfl rfl rfl rfl rfl rfl ?_
      refine ir_vgi (pc' := 31) rfl rfl rfl rfl rfl hv (fun r29 => ?_)
      refine ir_c_ge (pt := 131) (pc' := 34) rfl rfl rfl (fun c30 => ?_) (fun c30 => ?_)
      · have hW := hW.1 c30
        exact ir_vret rfl rfl ⟨rfl, hv, hW⟩
      · have hW := hW.2 c30
        refine ir_k (pc' := 35) (v := (0, 0)) rfl rfl rfl (fun _ => rfl) ?_
        refine ir_s (pc' := 36) rfl rfl rfl rfl rfl rfl ?_
        refine ir_w [(0, (2, ((582 : Nat) : Int))), (1, (0, l1)), (2, (0, 0))] ⟨rfl, rfl, rfl, trivial⟩ ?_
        obtain ⟨I9, r9, hI9, hB9⟩ := hW
        exact J36 l1 l1r I9 r9 hB9 _ 0 (zR_i (Or.inl rfl)) s hv hI9 (Nat.lt_succ_self _)
  have J2 : ∀ (I2 : Int × im_S → Prop) (r2 : Int × im_S → Nat) (hB2 : ∀ a : Int × im_S, I2 a → W_findTimes_2 (fun b => I2 b ∧ r2 b < r2 a) a.1 a.2 Q), ∀ n2 : Nat, ∀ (l1 : Int) (l1r : iR l1) (s : im_S) (hv : vI s), I2 (l1, s) → r2 (l1, s) < n2 → ir gG rm_P L ys (d + 9) rm_p_X10_findTimes (2, [(0, (2, ((582 : Nat) : Int))), (1, (0, l1))], [], s) (fun r : im_Re => r.1 = none ∧ (vI r.2 ∧ Q r.2)) := by
    intro I2 r2 hB2 n2
    induction n2 with
    | zero => intro l1 l1r s hv hI hr; exact absurd hr (Nat.not_lt_zero _)
    | succ n2 ih2 =>
      intro l1 l1r s hv hI hr2
      obtain ⟨t2, ht2⟩ : ∃ t2 : Int × im_S, t2 = (l1, s) := ⟨_, rfl⟩
      rw [← ht2] at hr2
      have hW : W_findTimes_2 (fun b => I2 b ∧ r2 b < r2 t2) l1 s Q := by have z := hB2 (l1, s) hI; rw [ht2]; exact z
      unfold W_findTimes_2 at hW
      refine ir_l (pc' := 3) rfl rfl rfl rfl rfl rfl ?_
      refine ir_l (pc' := 4) rfl rfl rfl rfl rfl rfl ?_
      refine ir_vgr (pc' := 7) (c := 606) rfl rfl rfl rfl rfl hv ?_
      refine ir_alen (pc' := 8) (z := 2000) rfl rfl vg_606 (by decide) (by decide) ?_
      refine ir_c_ge (pt := 24) (pc' := 11) rfl rfl rfl (fun c31 => ?_) (fun c31 => ?_)
      · have hW := hW.1 c31
        refine ir_k (pc' := 25) (v := (0, 0)) rfl rfl rfl (fun _ => rfl) ?_
        refine ir_s (pc' := 26) rfl rfl rfl rfl rfl rfl ?_
        refine ir_w [(0, (2, ((582 : Nat) : Int))), (1, (0, 0))] ⟨rfl, rfl, trivial⟩ ?_
        obtain ⟨I9, r9, hI9, hB9⟩ := hW
        exact J26 I9 r9 hB9 _ 0 (zR_i (Or.inl rfl)) s hv hI9 (Nat.lt_succ_self _)
      · have hW := hW.2 c31
        obtain ⟨h32, hW⟩ := hW
        refine ir_l (pc' := 12) rfl rfl rfl rfl rfl rfl ?_
        refine ir_vgr (pc' := 15) (c := 606) rfl rfl rfl rfl rfl hv ?_
        refine ir_l (pc' := 16) rfl rfl rfl rfl rfl rfl ?_
        refine ir_k (pc' := 17) (v := (0, 0)) rfl rfl rfl (fun _ => rfl) ?_
        refine ir_vis (pc' := 18) rfl rfl vg_606 rfl (Nat.le_of_ble_eq_true rfl) hv rfl h32 (zR_i (Or.inl rfl)) (fun s33 s33e s33v => ?_)
        have hW := hW s33 s33e
        obtain ⟨h34, hW⟩ := hW
        refine ir_inc (pc' := 21) rfl rfl rfl rfl rfl h34.1 h34.2 ?_
        refine ir_goto (pc' := 2) rfl rfl ?_
        refine ir_w [(0, (2, ((582 : Nat) : Int))), (1, (0, (l1 + 1)))] ⟨rfl, rfl, trivial⟩ ?_
        exact ih2 (l1 + 1) h34 s33 s33v hW.1 (Nat.lt_of_lt_of_le hW.2 (Nat.le_of_lt_succ hr2))
  unfold W_findTimes at hW
  refine ir_k (pc' := 1) (v := (0, 0)) rfl rfl rfl (fun _ => rfl) ?_
  refine ir_s (pc' := 2) rfl rfl rfl rfl rfl rfl ?_
  refine ir_w [(0, (2, ((582 : Nat) : Int))), (1, (0, 0))] ⟨rfl, rfl, trivial⟩ ?_
  obtain ⟨I9, r9, hI9, hB9⟩ := hW
  exact J2 I9 r9 hB9 _ 0 (zR_i (Or.inl rfl)) s hv hI9 (Nat.lt_succ_self _)
def W_join_274 (K274 : Int × im_S → Prop) (l6 : Int) (s : im_S) (Q : im_S → Prop) : Prop := (((wgf s 34) ≤ l6 → (Q s)) ∧ (¬ ((wgf s 34) ≤ l6) → ((0 ≤ l6 ∧ l6 < 200) ∧ (¬ ((wga s 602 l6) < 1000000) → iR ((wga s 602 l6) - 1000000)) ∧ (∀ v205 : Int, v205 = (if (wga s 602 l6) < 1000000 then (wga s 602 l6) else ((wga s 602 l6) - 1000000)) → ((0 ≤ l6 ∧ l6 < 200) ∧ (∀ s208, s208 = wpa s 602 l6 v205 → ((iR (l6 + 1)) ∧ (K274 ((l6 + 1), s208)))))))))
def W_join_264 (K220 : Int × im_S → Prop) (l2 : Int) (l6 : Int) (k1 : Int) (k2 : Int) (s : im_S) (Q : im_S → Prop) : Prop := ((0 ≤ k1 ∧ k1 < 200) ∧ (∀ s211, s211 = wpa s 602 k1 k2 → ((iR (l6 + 1)) ∧ (K220 ((l6 + 1), s211)))))
def W_join_220 (K220 : Int × im_S → Prop) (l2 : Int) (l6 : Int) (s : im_S) (Q : im_S → Prop) : Prop := (((wgf s 34) ≤ l6 → (wloop (fun (K : Int × im_S → Prop) (a : Int × im_S) => W_join_274 K a.1 a.2 Q) (0, s))) ∧ (¬ ((wgf s 34) ≤ l6) → ((0 ≤ l6 ∧ l6 < 200) ∧ (((wga s 602 l6) < l2 → ((0 ≤ l6 ∧ l6 < 200) ∧ (W_join_264 K220 l2 l6 l6 (wga s 602 l6) s Q))) ∧ (¬ ((wga s 602 l6) < l2) → (W_comeBack s (fun z221 s220 => ((iR (z221 + 1000000)) ∧ (W_join_264 K220 l2 l6 l6 (z221 + 1000000) s220 Q)))))))))
def W_join_205 (K174 : Int × im_S → Prop) (l2 : Int) (l3 : Int) (l6 : Int) (s : im_S) (Q : im_S → Prop) : Prop := ((iR (l6 + 1)) ∧ (K174 ((l6 + 1), s)))
def W_join_174 (K174 : Int × im_S → Prop) (l2 : Int) (l3 : Int) (l6 : Int) (s : im_S) (Q : im_S → Prop) : Prop := (((wgf s 34) ≤ l6 → (W_giveBack l2 l3 s (fun s226 => (wloop (fun (K : Int × im_S → Prop) (a : Int × im_S) => W_join_220 K l2 a.1 a.2 Q) (0, s226))))) ∧ (¬ ((wgf s 34) ≤ l6) → ((0 ≤ l6 ∧ l6 < 200) ∧ (((wga s 602 l6) < l2 → (W_join_205 K174 l2 l3 l6 s Q)) ∧ (¬ ((wga s 602 l6) < l2) → ((0 ≤ l6 ∧ l6 < 200) ∧ (W_stay (wga s 602 l6) s (fun s233 => (W_join_205 K174 l2 l3 l6 s233 Q)))))))))
def W_join_166 (l2 : Int) (l3 : Int) (s : im_S) (Q : im_S → Prop) : Prop := (∀ s235, s235 = wpf s 32 0 → (wloop (fun (K : Int × im_S → Prop) (a : Int × im_S) => W_join_174 K l2 l3 a.1 a.2 Q) (0, s235)))
def W_join_135 (l2 : Int) (l3 : Int) (l4 : Int) (s : im_S) (Q : im_S → Prop) : Prop := ((0 ≤ l4 ∧ l4 < 1200) ∧ (((wga s 598 l4) ≤ 0 → (W_join_166 l2 l3 s Q)) ∧ (¬ ((wga s 598 l4) ≤ 0) → ((0 ≤ (wgf s 34) ∧ (wgf s 34) < 200) ∧ (∀ s241, s241 = wpa s 602 (wgf s 34) l4 → ((iR ((wgf s241 34) + 1)) ∧ (∀ s244, s244 = wpf s241 34 ((wgf s241 34) + 1) → (W_join_166 l2 l3 s244 Q))))))))
def W_join_129 (K22 : Int × Int × im_S → Prop) (l2 : Int) (l3 : Int) (l4 : Int) (l5 : Int) (l6 : Int) (s : im_S) (Q : im_S → Prop) : Prop := ((iR (l6 + 1)) ∧ (K22 (l4, (l6 + 1), s)))
def W_join_119 (K22 : Int × Int × im_S → Prop) (l2 : Int) (l3 : Int) (l4 : Int) (l5 : Int) (l6 : Int) (l7 : Int) (s : im_S) (Q : im_S → Prop) : Prop := (W_share l4 l7 s (fun z247 s246 => (W_join_129 K22 l2 l3 z247 l5 l6 s246 Q)))
def W_join_22 (K22 : Int × Int × im_S → Prop) (l2 : Int) (l3 : Int) (l5 : Int) (l4 : Int) (l6 : Int) (s : im_S) (Q : im_S → Prop) : Prop := ((l5 ≤ l6 → (W_join_135 l2 l3 l4 s Q)) ∧ (¬ (l5 ≤ l6) → ((0 ≤ l4 ∧ l4 < 1200) ∧ (((wga s 598 l4) ≤ 0 → (W_join_135 l2 l3 l4 s Q)) ∧ (¬ ((wga s 598 l4) ≤ 0) → ((0 ≤ l6 ∧ l6 < 200) ∧ (W_common2 (wga s 602 l6) l4 s (fun z255 s254 => ((0 ≤ z255 ∧ z255 < 1200) ∧ (((wga s254 598 z255) ≤ 0 → (W_join_129 K22 l2 l3 l4 l5 l6 s254 Q)) ∧ (¬ ((wga s254 598 z255) ≤ 0) → ((0 ≤ l6 ∧ l6 < 200) ∧ (W_share (wga s254 602 l6) z255 s254 (fun z262 s261 => ((0 ≤ l6 ∧ l6 < 200) ∧ (∀ s264, s264 = wpa s261 602 l6 z255 → ((0 ≤ z262 ∧ z262 < 1200) ∧ (((wga s264 598 z262) ≤ 0 → (W_join_119 K22 l2 l3 l4 l5 l6 z255 s264 Q)) ∧ (¬ ((wga s264 598 z262) ≤ 0) → ((0 ≤ (wgf s264 34) ∧ (wgf s264 34) < 200) ∧ (∀ s270, s270 = wpa s264 602 (wgf s264 34) z262 → ((iR ((wgf s270 34) + 1)) ∧ (∀ s273, s273 = wpf s270 34 ((wgf s270 34) + 1) → (W_join_119 K22 l2 l3 l4 l5 l6 z255 s273 Q))))))))))))))))))))))))
def W_join (l1 : Int) (s : im_S) (Q : im_S → Prop) : Prop := (wloop (fun (K : Int × Int × im_S → Prop) (a : Int × Int × im_S) => W_join_22 K (wgf s 28) (wgf s 24) (wgf s 34) a.1 a.2.1 a.2.2 Q) (l1, 0, s))
set_option maxRecDepth 16384 in
theorem w_join (L : Nat) (ys : Nat → Int32) (d : Nat) (s : im_S) (hv : vI s) (l1 : Int) (l1r : iR l1) (Q : im_S → Prop) (hW : W_join l1 s Q) : icV gG rm_P L ys (d + 10) 59 [(2, ((582 : Nat) : Int)), (0, l1)] s (fun s9 => vI s9 ∧ Q s9) := by
  refine ic_startM (M := rm_p_X10_join) om_X10_join (Nat.le_of_ble_eq_true rfl) ?_
  refine ir_w [(0, (2, ((582 : Nat) : Int))), (1, (0, l1))] ⟨rfl, rfl, trivial⟩ ?_
  have J274 : ∀ (I274 : Int × im_S → Prop) (r274 : Int × im_S → Nat) (hB274 : ∀ a : Int × im_S, I274 a → W_join_274 (fun b => I274 b ∧ r274 b < r274 a) a.1 a.2 Q), ∀ n274 : Nat, ∀ (l6 : Int) (l6r : iR l6) (s : im_S) (hv : vI s), I274 (l6, s) → r274 (l6, s) < n274 → ir gG rm_P L ys (d + 9) rm_p_X10_join (274, [(0, (2, ((582 : Nat) : Int))), (6, (0, l6))], [], s) (fun r : im_Re => r.1 = none ∧ (vI r.2 ∧ Q r.2)) := by
    intro I274 r274 hB274 n274
    induction n274 with
    | zero => intro l6 l6r s hv hI hr; exact absurd hr (Nat.not_lt_zero _)
    | succ n274 ih274 =>
      intro l6 l6r s hv hI hr274
      obtain ⟨t274, ht274⟩ : ∃ t274 : Int × im_S, t274 = (l6, s) := ⟨_, rfl⟩
      rw [← ht274] at hr274
      have hW : W_join_274 (fun b => I274 b ∧ r274 b < r274 t274) l6 s Q := by have z := hB274 (l6, s) hI; rw [ht274]; exact z
      unfold W_join_274 at hW
      refine ir_l (pc' := 276) rfl rfl rfl rfl rfl rfl ?_
      refine ir_l (pc' := 277) rfl rfl rfl rfl rfl rfl ?_
      refine ir_vgi (pc' := 280) rfl rfl rfl rfl rfl hv (fun r1 => ?_)
      refine ir_c_ge (pt := 330) (pc' := 283) rfl rfl rfl (fun c2 => ?_) (fun c2 => ?_)
      · have hW := hW.1 c2
        exact ir_vret rfl rfl ⟨rfl, hv, hW⟩
      · have hW := hW.2 c2
        obtain ⟨h3, h8, hW⟩ := hW
        refine ir_l (pc' := 284) rfl rfl rfl rfl rfl rfl ?_
        refine ir_vgr (pc' := 287) (c := 602) rfl rfl rfl rfl rfl hv ?_
        refine ir_l (pc' := 289) rfl rfl rfl rfl rfl rfl ?_
        refine ir_l (pc' := 290) rfl rfl rfl rfl rfl rfl ?_
        refine ir_vgr (pc' := 293) (c := 602) rfl rfl rfl rfl rfl hv ?_
        refine ir_l (pc' := 295) rfl rfl rfl rfl rfl rfl ?_
        refine ir_via (pc' := 296) rfl rfl vg_602 rfl (Nat.le_of_ble_eq_true rfl) hv rfl h3 (fun r4 => ?_)
        refine ir_k (pc' := 299) (v := (0, 1000000)) rfl rfl rfl (fun _ => rfl) ?_
        have J206 : ∀ v205 : Int, iR v205 → (((0 ≤ l6 ∧ l6 < 200) ∧ (∀ s208, s208 = wpa s 602 l6 v205 → ((iR (l6 + 1)) ∧ ((fun b => I274 b ∧ r274 b < r274 t274) ((l6 + 1), s208)))))) → ir gG rm_P L ys (d + 9) rm_p_X10_join (323, [(0, (2, ((582 : Nat) : Int))), (6, (0, l6))], [(0, v205), (0, l6), (2, ((602 : Nat) : Int))], s) (fun r : im_Re => r.1 = none ∧ (vI r.2 ∧ Q r.2)) := by
          intro v205 v205r hW
          obtain ⟨h207, hW⟩ := hW
          refine ir_vis (pc' := 324) rfl rfl vg_602 rfl (Nat.le_of_ble_eq_true rfl) hv rfl h207 v205r (fun s208 s208e s208v => ?_)
          have hW := hW s208 s208e
          obtain ⟨h209, hW⟩ := hW
          refine ir_inc (pc' := 327) rfl rfl rfl rfl rfl h209.1 h209.2 ?_
          refine ir_goto (pc' := 274) rfl rfl ?_
          refine ir_w [(0, (2, ((582 : Nat) : Int))), (6, (0, (l6 + 1)))] ⟨rfl, rfl, trivial⟩ ?_
          exact ih274 (l6 + 1) h209 s208 s208v hW.1 (Nat.lt_of_lt_of_le hW.2 (Nat.le_of_lt_succ hr274))
        refine ir_c_lt (pt := 316) (pc' := 302) rfl rfl rfl (fun c5 => ?_) (fun c5 => ?_)
        · refine ir_l (pc' := 317) rfl rfl rfl rfl rfl rfl ?_
          refine ir_vgr (pc' := 320) (c := 602) rfl rfl rfl rfl rfl hv ?_
          refine ir_l (pc' := 322) rfl rfl rfl rfl rfl rfl ?_
          refine ir_via (pc' := 323) rfl rfl vg_602 rfl (Nat.le_of_ble_eq_true rfl) hv rfl h3 (fun r6 => ?_)
          refine ir_w [(0, (2, ((582 : Nat) : Int))), (6, (0, l6))] ⟨rfl, rfl, trivial⟩ ?_
          exact J206 (wga s 602 l6) r6 (hW _ (by rw [if_pos c5]))
        · refine ir_l (pc' := 303) rfl rfl rfl rfl rfl rfl ?_
          refine ir_vgr (pc' := 306) (c := 602) rfl rfl rfl rfl rfl hv ?_
          refine ir_l (pc' := 308) rfl rfl rfl rfl rfl rfl ?_
          refine ir_via (pc' := 309) rfl rfl vg_602 rfl (Nat.le_of_ble_eq_true rfl) hv rfl h3 (fun r7 => ?_)
          refine ir_k (pc' := 312) (v := (0, 1000000)) rfl rfl rfl (fun _ => rfl) ?_
          refine ir_sub (pc' := 313) rfl rfl (h8 c5).1 (h8 c5).2 ?_
          refine ir_goto (pc' := 323) rfl rfl ?_
          refine ir_w [(0, (2, ((582 : Nat) : Int))), (6, (0, l6))] ⟨rfl, rfl, trivial⟩ ?_
          exact J206 ((wga s 602 l6) - 1000000) (h8 c5) (hW _ (by rw [if_neg (fun z => c5 z)]))
  have J220 : ∀ (l2 : Int) (l2r : iR l2) (I220 : Int × im_S → Prop) (r220 : Int × im_S → Nat) (hB220 : ∀ a : Int × im_S, I220 a → W_join_220 (fun b => I220 b ∧ r220 b < r220 a) l2 a.1 a.2 Q), ∀ n220 : Nat, ∀ (l6 : Int) (l6r : iR l6) (s : im_S) (hv : vI s), I220 (l6, s) → r220 (l6, s) < n220 → ir gG rm_P L ys (d + 9) rm_p_X10_join (220, [(0, (2, ((582 : Nat) : Int))), (2, (0, l2)), (6, (0, l6))], [], s) (fun r : im_Re => r.1 = none ∧ (vI r.2 ∧ Q r.2)) := by
    intro l2 l2r I220 r220 hB220 n220
    induction n220 with
    | zero => intro l6 l6r s hv hI hr; exact absurd hr (Nat.not_lt_zero _)
    | succ n220 ih220 =>
      intro l6 l6r s hv hI hr220
      obtain ⟨t220, ht220⟩ : ∃ t220 : Int × im_S, t220 = (l6, s) := ⟨_, rfl⟩
      rw [← ht220] at hr220
      have hW : W_join_220 (fun b => I220 b ∧ r220 b < r220 t220) l2 l6 s Q := by have z := hB220 (l6, s) hI; rw [ht220]; exact z
      have J264 : ∀ (l6 : Int) (l6r : iR l6) (k1 : Int) (k1r : iR k1) (k2 : Int) (k2r : iR k2) (s : im_S) (hv : vI s), W_join_264 (fun b => I220 b ∧ r220 b < r220 t220) l2 l6 k1 k2 s Q → ir gG rm_P L ys (d + 9) rm_p_X10_join (264, [(0, (2, ((582 : Nat) : Int))), (2, (0, l2)), (6, (0, l6))], [(0, k2), (0, k1), (2, ((602 : Nat) : Int))], s) (fun r : im_Re => r.1 = none ∧ (vI r.2 ∧ Q r.2)) := by
        intro l6 l6r k1 k1r k2 k2r s hv hW
        unfold W_join_264 at hW
        obtain ⟨h210, hW⟩ := hW
        refine ir_vis (pc' := 265) rfl rfl vg_602 rfl (Nat.le_of_ble_eq_true rfl) hv rfl h210 k2r (fun s211 s211e s211v => ?_)
        have hW := hW s211 s211e
        obtain ⟨h212, hW⟩ := hW
        refine ir_inc (pc' := 268) rfl rfl rfl rfl rfl h212.1 h212.2 ?_
        refine ir_goto (pc' := 220) rfl rfl ?_
        refine ir_w [(0, (2, ((582 : Nat) : Int))), (2, (0, l2)), (6, (0, (l6 + 1)))] ⟨rfl, rfl, rfl, trivial⟩ ?_
        exact ih220 (l6 + 1) h212 s211 s211v hW.1 (Nat.lt_of_lt_of_le hW.2 (Nat.le_of_lt_succ hr220))
      unfold W_join_220 at hW
      refine ir_l (pc' := 222) rfl rfl rfl rfl rfl rfl ?_
      refine ir_l (pc' := 223) rfl rfl rfl rfl rfl rfl ?_
      refine ir_vgi (pc' := 226) rfl rfl rfl rfl rfl hv (fun r213 => ?_)
      refine ir_c_ge (pt := 271) (pc' := 229) rfl rfl rfl (fun c214 => ?_) (fun c214 => ?_)
      · have hW := hW.1 c214
        refine ir_k (pc' := 272) (v := (0, 0)) rfl rfl rfl (fun _ => rfl) ?_
        refine ir_s (pc' := 274) rfl rfl rfl rfl rfl rfl ?_
        refine ir_w [(0, (2, ((582 : Nat) : Int))), (6, (0, 0))] ⟨rfl, rfl, trivial⟩ ?_
        obtain ⟨I9, r9, hI9, hB9⟩ := hW
        exact J274 I9 r9 hB9 _ 0 (zR_i (Or.inl rfl)) s hv hI9 (Nat.lt_succ_self _)
      · have hW := hW.2 c214
        obtain ⟨h215, hW⟩ := hW
        refine ir_l (pc' := 230) rfl rfl rfl rfl rfl rfl ?_
        refine ir_vgr (pc' := 233) (c := 602) rfl rfl rfl rfl rfl hv ?_
        refine ir_l (pc' := 235) rfl rfl rfl rfl rfl rfl ?_
        refine ir_l (pc' := 236) rfl rfl rfl rfl rfl rfl ?_
        refine ir_vgr (pc' := 239) (c := 602) rfl rfl rfl rfl rfl hv ?_
        refine ir_l (pc' := 241) rfl rfl rfl rfl rfl rfl ?_
        refine ir_via (pc' := 242) rfl rfl vg_602 rfl (Nat.le_of_ble_eq_true rfl) hv rfl h215 (fun r216 => ?_)
        refine ir_l (pc' := 243) rfl rfl rfl rfl rfl rfl ?_
        refine ir_c_lt (pt := 257) (pc' := 246) rfl rfl rfl (fun c217 => ?_) (fun c217 => ?_)
        · have hW := hW.1 c217
          obtain ⟨h218, hW⟩ := hW
          refine ir_l (pc' := 258) rfl rfl rfl rfl rfl rfl ?_
          refine ir_vgr (pc' := 261) (c := 602) rfl rfl rfl rfl rfl hv ?_
          refine ir_l (pc' := 263) rfl rfl rfl rfl rfl rfl ?_
          refine ir_via (pc' := 264) rfl rfl vg_602 rfl (Nat.le_of_ble_eq_true rfl) hv rfl h218 (fun r219 => ?_)
          refine ir_w [(0, (2, ((582 : Nat) : Int))), (2, (0, l2)), (6, (0, l6))] ⟨rfl, rfl, rfl, trivial⟩ ?_
          exact J264 l6 l6r l6 l6r (wga s 602 l6) r219 s hv hW
        · have hW := hW.2 c217
          refine ir_l (pc' := 247) rfl rfl rfl rfl rfl rfl ?_
          refine ir_cVI (pc' := 250) rfl rfl rfl rfl rfl (Nat.le_of_ble_eq_true rfl) oo_X10_comeBack vg_582 (w_comeBack L ys (d + 7) s hv  _ hW) (fun z221 s220 hr => ?_)
          obtain ⟨s220v, z221r, hW⟩ := hr
          obtain ⟨h222, hW⟩ := hW
          refine ir_k (pc' := 253) (v := (0, 1000000)) rfl rfl rfl (fun _ => rfl) ?_
          refine ir_add (pc' := 254) rfl rfl h222.1 h222.2 ?_
          refine ir_goto (pc' := 264) rfl rfl ?_
          refine ir_w [(0, (2, ((582 : Nat) : Int))), (2, (0, l2)), (6, (0, l6))] ⟨rfl, rfl, rfl, trivial⟩ ?_
          exact J264 l6 l6r l6 l6r (z221 + 1000000) h222 s220 s220v hW
  have J174 : ∀ (l2 : Int) (l2r : iR l2) (l3 : Int) (l3r : iR l3) (I174 : Int × im_S → Prop) (r174 : Int × im_S → Nat) (hB174 : ∀ a : Int × im_S, I174 a → W_join_174 (fun b => I174 b ∧ r174 b < r174 a) l2 l3 a.1 a.2 Q), ∀ n174 : Nat, ∀ (l6 : Int) (l6r : iR l6) (s : im_S) (hv : vI s), I174 (l6, s) → r174 (l6, s) < n174 → ir gG rm_P L ys (d + 9) rm_p_X10_join (174, [(0, (2, ((582 : Nat) : Int))), (2, (0, l2)), (3, (0, l3)), (6, (0, l6))], [], s) (fun r : im_Re => r.1 = none ∧ (vI r.2 ∧ Q r.2)) := by
    intro l2 l2r l3 l3r I174 r174 hB174 n174
    induction n174 with
    | zero => intro l6 l6r s hv hI hr; exact absurd hr (Nat.not_lt_zero _)
    | succ n174 ih174 =>
      intro l6 l6r s hv hI hr174
      obtain ⟨t174, ht174⟩ : ∃ t174 : Int × im_S, t174 = (l6, s) := ⟨_, rfl⟩
      rw [← ht174] at hr174
      have hW : W_join_174 (fun b => I174 b ∧ r174 b < r174 t174) l2 l3 l6 s Q := by have z := hB174 (l6, s) hI; rw [ht174]; exact z
      have J205 : ∀ (l6 : Int) (l6r : iR l6) (s : im_S) (hv : vI s), W_join_205 (fun b => I174 b ∧ r174 b < r174 t174) l2 l3 l6 s Q → ir gG rm_P L ys (d + 9) rm_p_X10_join (205, [(0, (2, ((582 : Nat) : Int))), (2, (0, l2)), (3, (0, l3)), (6, (0, l6))], [], s) (fun r : im_Re => r.1 = none ∧ (vI r.2 ∧ Q r.2)) := by
        intro l6 l6r s hv hW
        unfold W_join_205 at hW
        obtain ⟨h223, hW⟩ := hW
        refine ir_inc (pc' := 208) rfl rfl rfl rfl rfl h223.1 h223.2 ?_
        refine ir_goto (pc' := 174) rfl rfl ?_
        refine ir_w [(0, (2, ((582 : Nat) : Int))), (2, (0, l2)), (3, (0, l3)), (6, (0, (l6 + 1)))] ⟨rfl, rfl, rfl, rfl, trivial⟩ ?_
        exact ih174 (l6 + 1) h223 s hv hW.1 (Nat.lt_of_lt_of_le hW.2 (Nat.le_of_lt_succ hr174))
      unfold W_join_174 at hW
      refine ir_l (pc' := 176) rfl rfl rfl rfl rfl rfl ?_
      refine ir_l (pc' := 177) rfl rfl rfl rfl rfl rfl ?_
      refine ir_vgi (pc' := 180) rfl rfl rfl rfl rfl hv (fun r224 => ?_)
      refine ir_c_ge (pt := 211) (pc' := 183) rfl rfl rfl (fun c225 => ?_) (fun c225 => ?_)
      · have hW := hW.1 c225
        refine ir_l (pc' := 212) rfl rfl rfl rfl rfl rfl ?_
        refine ir_l (pc' := 213) rfl rfl rfl rfl rfl rfl ?_
        refine ir_l (pc' := 214) rfl rfl rfl rfl rfl rfl ?_
        refine ir_cVV (pc' := 217) rfl rfl rfl rfl rfl (Nat.le_of_ble_eq_true rfl) oo_X10_giveBack vg_582 (w_giveBack L ys (d + 8) s hv l2 l2r l3 l3r _ hW) (fun s226 hr => ?_)
        obtain ⟨s226v, hW⟩ := hr
        refine ir_k (pc' := 218) (v := (0, 0)) rfl rfl rfl (fun _ => rfl) ?_
        refine ir_s (pc' := 220) rfl rfl rfl rfl rfl rfl ?_
        refine ir_w [(0, (2, ((582 : Nat) : Int))), (2, (0, l2)), (6, (0, 0))] ⟨rfl, rfl, rfl, trivial⟩ ?_
        obtain ⟨I9, r9, hI9, hB9⟩ := hW
        exact J220 l2 l2r I9 r9 hB9 _ 0 (zR_i (Or.inl rfl)) s226 s226v hI9 (Nat.lt_succ_self _)
      · have hW := hW.2 c225
        obtain ⟨h228, hW⟩ := hW
        refine ir_l (pc' := 184) rfl rfl rfl rfl rfl rfl ?_
        refine ir_vgr (pc' := 187) (c := 602) rfl rfl rfl rfl rfl hv ?_
        refine ir_l (pc' := 189) rfl rfl rfl rfl rfl rfl ?_
        refine ir_via (pc' := 190) rfl rfl vg_602 rfl (Nat.le_of_ble_eq_true rfl) hv rfl h228 (fun r229 => ?_)
        refine ir_l (pc' := 191) rfl rfl rfl rfl rfl rfl ?_
        refine ir_c_lt (pt := 205) (pc' := 194) rfl rfl rfl (fun c230 => ?_) (fun c230 => ?_)
        · have hW := hW.1 c230
          refine ir_w [(0, (2, ((582 : Nat) : Int))), (2, (0, l2)), (3, (0, l3)), (6, (0, l6))] ⟨rfl, rfl, rfl, rfl, trivial⟩ ?_
          exact J205 l6 l6r s hv hW
        · have hW := hW.2 c230
          obtain ⟨h231, hW⟩ := hW
          refine ir_l (pc' := 195) rfl rfl rfl rfl rfl rfl ?_
          refine ir_l (pc' := 196) rfl rfl rfl rfl rfl rfl ?_
          refine ir_vgr (pc' := 199) (c := 602) rfl rfl rfl rfl rfl hv ?_
          refine ir_l (pc' := 201) rfl rfl rfl rfl rfl rfl ?_
          refine ir_via (pc' := 202) rfl rfl vg_602 rfl (Nat.le_of_ble_eq_true rfl) hv rfl h231 (fun r232 => ?_)
          refine ir_cVV (pc' := 205) rfl rfl rfl rfl rfl (Nat.le_of_ble_eq_true rfl) oo_X10_stay vg_582 (w_stay L ys (d + 7) s hv (wga s 602 l6) r232 _ hW) (fun s233 hr => ?_)
          obtain ⟨s233v, hW⟩ := hr
          refine ir_w [(0, (2, ((582 : Nat) : Int))), (2, (0, l2)), (3, (0, l3)), (6, (0, l6))] ⟨rfl, rfl, rfl, rfl, trivial⟩ ?_
          exact J205 l6 l6r s233 s233v hW
  have J166 : ∀ (l2 : Int) (l2r : iR l2) (l3 : Int) (l3r : iR l3) (s : im_S) (hv : vI s), W_join_166 l2 l3 s Q → ir gG rm_P L ys (d + 9) rm_p_X10_join (166, [(0, (2, ((582 : Nat) : Int))), (2, (0, l2)), (3, (0, l3))], [], s) (fun r : im_Re => r.1 = none ∧ (vI r.2 ∧ Q r.2)) := by
    intro l2 l2r l3 l3r s hv hW
    unfold W_join_166 at hW
    refine ir_l (pc' := 167) rfl rfl rfl rfl rfl rfl ?_
    refine ir_k (pc' := 168) (v := (0, 0)) rfl rfl rfl (fun _ => rfl) ?_
    refine ir_vpi (pc' := 171) rfl rfl rfl rfl rfl rfl rfl hv (zR_i (Or.inl rfl)) (fun s235 s235e s235v => ?_)
    have hW := hW s235 s235e
    refine ir_k (pc' := 172) (v := (0, 0)) rfl rfl rfl (fun _ => rfl) ?_
    refine ir_s (pc' := 174) rfl rfl rfl rfl rfl rfl ?_
    refine ir_w [(0, (2, ((582 : Nat) : Int))), (2, (0, l2)), (3, (0, l3)), (6, (0, 0))] ⟨rfl, rfl, rfl, rfl, trivial⟩ ?_
    obtain ⟨I9, r9, hI9, hB9⟩ := hW
    exact J174 l2 l2r l3 l3r I9 r9 hB9 _ 0 (zR_i (Or.inl rfl)) s235 s235v hI9 (Nat.lt_succ_self _)
  have J135 : ∀ (l2 : Int) (l2r : iR l2) (l3 : Int) (l3r : iR l3) (l4 : Int) (l4r : iR l4) (s : im_S) (hv : vI s), W_join_135 l2 l3 l4 s Q → ir gG rm_P L ys (d + 9) rm_p_X10_join (135, [(0, (2, ((582 : Nat) : Int))), (2, (0, l2)), (3, (0, l3)), (4, (0, l4))], [], s) (fun r : im_Re => r.1 = none ∧ (vI r.2 ∧ Q r.2)) := by
    intro l2 l2r l3 l3r l4 l4r s hv hW
    unfold W_join_135 at hW
    obtain ⟨h236, hW⟩ := hW
    refine ir_l (pc' := 136) rfl rfl rfl rfl rfl rfl ?_
    refine ir_vgr (pc' := 139) (c := 598) rfl rfl rfl rfl rfl hv ?_
    refine ir_l (pc' := 141) rfl rfl rfl rfl rfl rfl ?_
    refine ir_via (pc' := 142) rfl rfl vg_598 rfl (Nat.le_of_ble_eq_true rfl) hv rfl h236 (fun r237 => ?_)
    refine ir_z_le (pt := 166) (pc' := 145) rfl rfl rfl (fun c238 => ?_) (fun c238 => ?_)
    · have hW := hW.1 c238
      refine ir_w [(0, (2, ((582 : Nat) : Int))), (2, (0, l2)), (3, (0, l3))] ⟨rfl, rfl, rfl, trivial⟩ ?_
      exact J166 l2 l2r l3 l3r s hv hW
    · have hW := hW.2 c238
      obtain ⟨h240, hW⟩ := hW
      refine ir_l (pc' := 146) rfl rfl rfl rfl rfl rfl ?_
      refine ir_vgr (pc' := 149) (c := 602) rfl rfl rfl rfl rfl hv ?_
      refine ir_l (pc' := 150) rfl rfl rfl rfl rfl rfl ?_
      refine ir_vgi (pc' := 153) rfl rfl rfl rfl rfl hv (fun r239 => ?_)
      refine ir_l (pc' := 155) rfl rfl rfl rfl rfl rfl ?_
      refine ir_vis (pc' := 156) rfl rfl vg_602 rfl (Nat.le_of_ble_eq_true rfl) hv rfl h240 l4r (fun s241 s241e s241v => ?_)
      have hW := hW s241 s241e
      obtain ⟨h243, hW⟩ := hW
      refine ir_l (pc' := 157) rfl rfl rfl rfl rfl rfl ?_
      refine ir_x (pc' := 158) rfl rfl rfl (fun _ => rfl) ?_
      refine ir_vgi (pc' := 161) rfl rfl rfl rfl rfl s241v (fun r242 => ?_)
      refine ir_k (pc' := 162) (v := (0, 1)) rfl rfl rfl (fun _ => rfl) ?_
      refine ir_add (pc' := 163) rfl rfl h243.1 h243.2 ?_
      refine ir_vpi (pc' := 166) rfl rfl rfl rfl rfl rfl rfl s241v h243 (fun s244 s244e s244v => ?_)
      have hW := hW s244 s244e
      refine ir_w [(0, (2, ((582 : Nat) : Int))), (2, (0, l2)), (3, (0, l3))] ⟨rfl, rfl, rfl, trivial⟩ ?_
      exact J166 l2 l2r l3 l3r s244 s244v hW
  have J22 : ∀ (l2 : Int) (l2r : iR l2) (l3 : Int) (l3r : iR l3) (l5 : Int) (l5r : iR l5) (I22 : Int × Int × im_S → Prop) (r22 : Int × Int × im_S → Nat) (hB22 : ∀ a : Int × Int × im_S, I22 a → W_join_22 (fun b => I22 b ∧ r22 b < r22 a) l2 l3 l5 a.1 a.2.1 a.2.2 Q), ∀ n22 : Nat, ∀ (l4 : Int) (l4r : iR l4) (l6 : Int) (l6r : iR l6) (s : im_S) (hv : vI s), I22 (l4, l6, s) → r22 (l4, l6, s) < n22 → ir gG rm_P L ys (d + 9) rm_p_X10_join (22, [(0, (2, ((582 : Nat) : Int))), (2, (0, l2)), (3, (0, l3)), (4, (0, l4)), (5, (0, l5)), (6, (0, l6))], [], s) (fun r : im_Re => r.1 = none ∧ (vI r.2 ∧ Q r.2)) := by
    intro l2 l2r l3 l3r l5 l5r I22 r22 hB22 n22
    induction n22 with
    | zero => intro l4 l4r l6 l6r s hv hI hr; exact absurd hr (Nat.not_lt_zero _)
    | succ n22 ih22 =>
      intro l4 l4r l6 l6r s hv hI hr22
      obtain ⟨t22, ht22⟩ : ∃ t22 : Int × Int × im_S, t22 = (l4, l6, s) := ⟨_, rfl⟩
      rw [← ht22] at hr22
      have hW : W_join_22 (fun b => I22 b ∧ r22 b < r22 t22) l2 l3 l5 l4 l6 s Q := by have z := hB22 (l4, l6, s) hI; rw [ht22]; exact z
      have J129 : ∀ (l4 : Int) (l4r : iR l4) (l6 : Int) (l6r : iR l6) (s : im_S) (hv : vI s), W_join_129 (fun b => I22 b ∧ r22 b < r22 t22) l2 l3 l4 l5 l6 s Q → ir gG rm_P L ys (d + 9) rm_p_X10_join (129, [(0, (2, ((582 : Nat) : Int))), (2, (0, l2)), (3, (0, l3)), (4, (0, l4)), (5, (0, l5)), (6, (0, l6))], [], s) (fun r : im_Re => r.1 = none ∧ (vI r.2 ∧ Q r.2)) := by
        intro l4 l4r l6 l6r s hv hW
        unfold W_join_129 at hW
        obtain ⟨h245, hW⟩ := hW
        refine ir_inc (pc' := 132) rfl rfl rfl rfl rfl h245.1 h245.2 ?_
        refine ir_goto (pc' := 22) rfl rfl ?_
        refine ir_w [(0, (2, ((582 : Nat) : Int))), (2, (0, l2)), (3, (0, l3)), (4, (0, l4)), (5, (0, l5)), (6, (0, (l6 + 1)))] ⟨rfl, rfl, rfl, rfl, rfl, rfl, trivial⟩ ?_
        exact ih22 l4 l4r (l6 + 1) h245 s hv hW.1 (Nat.lt_of_lt_of_le hW.2 (Nat.le_of_lt_succ hr22))
      have J119 : ∀ (l4 : Int) (l4r : iR l4) (l6 : Int) (l6r : iR l6) (l7 : Int) (l7r : iR l7) (s : im_S) (hv : vI s), W_join_119 (fun b => I22 b ∧ r22 b < r22 t22) l2 l3 l4 l5 l6 l7 s Q → ir gG rm_P L ys (d + 9) rm_p_X10_join (119, [(0, (2, ((582 : Nat) : Int))), (2, (0, l2)), (3, (0, l3)), (4, (0, l4)), (5, (0, l5)), (6, (0, l6)), (7, (0, l7))], [], s) (fun r : im_Re => r.1 = none ∧ (vI r.2 ∧ Q r.2)) := by
        intro l4 l4r l6 l6r l7 l7r s hv hW
        unfold W_join_119 at hW
        refine ir_l (pc' := 120) rfl rfl rfl rfl rfl rfl ?_
        refine ir_l (pc' := 122) rfl rfl rfl rfl rfl rfl ?_
        refine ir_l (pc' := 124) rfl rfl rfl rfl rfl rfl ?_
        refine ir_cVI (pc' := 127) rfl rfl rfl rfl rfl (Nat.le_of_ble_eq_true rfl) oo_X10_share vg_582 (w_share L ys (d + 1) s hv l4 l4r l7 l7r _ hW) (fun z247 s246 hr => ?_)
        obtain ⟨s246v, z247r, hW⟩ := hr
        refine ir_s (pc' := 129) rfl rfl rfl rfl rfl rfl ?_
        refine ir_w [(0, (2, ((582 : Nat) : Int))), (2, (0, l2)), (3, (0, l3)), (4, (0, z247)), (5, (0, l5)), (6, (0, l6))] ⟨rfl, rfl, rfl, rfl, rfl, rfl, trivial⟩ ?_
        exact J129 z247 z247r l6 l6r s246 s246v hW
      unfold W_join_22 at hW
      refine ir_l (pc' := 24) rfl rfl rfl rfl rfl rfl ?_
      refine ir_l (pc' := 26) rfl rfl rfl rfl rfl rfl ?_
      refine ir_c_ge (pt := 135) (pc' := 29) rfl rfl rfl (fun c248 => ?_) (fun c248 => ?_)
      · have hW := hW.1 c248
        refine ir_w [(0, (2, ((582 : Nat) : Int))), (2, (0, l2)), (3, (0, l3)), (4, (0, l4))] ⟨rfl, rfl, rfl, rfl, trivial⟩ ?_
        exact J135 l2 l2r l3 l3r l4 l4r s hv hW
      · have hW := hW.2 c248
        obtain ⟨h249, hW⟩ := hW
        refine ir_l (pc' := 30) rfl rfl rfl rfl rfl rfl ?_
        refine ir_vgr (pc' := 33) (c := 598) rfl rfl rfl rfl rfl hv ?_
        refine ir_l (pc' := 35) rfl rfl rfl rfl rfl rfl ?_
        refine ir_via (pc' := 36) rfl rfl vg_598 rfl (Nat.le_of_ble_eq_true rfl) hv rfl h249 (fun r250 => ?_)
        refine ir_z_le (pt := 135) (pc' := 39) rfl rfl rfl (fun c251 => ?_) (fun c251 => ?_)
        · have hW := hW.1 c251
          refine ir_w [(0, (2, ((582 : Nat) : Int))), (2, (0, l2)), (3, (0, l3)), (4, (0, l4))] ⟨rfl, rfl, rfl, rfl, trivial⟩ ?_
          exact J135 l2 l2r l3 l3r l4 l4r s hv hW
        · have hW := hW.2 c251
          obtain ⟨h252, hW⟩ := hW
          refine ir_l (pc' := 40) rfl rfl rfl rfl rfl rfl ?_
          refine ir_l (pc' := 41) rfl rfl rfl rfl rfl rfl ?_
          refine ir_vgr (pc' := 44) (c := 602) rfl rfl rfl rfl rfl hv ?_
          refine ir_l (pc' := 46) rfl rfl rfl rfl rfl rfl ?_
          refine ir_via (pc' := 47) rfl rfl vg_602 rfl (Nat.le_of_ble_eq_true rfl) hv rfl h252 (fun r253 => ?_)
          refine ir_l (pc' := 49) rfl rfl rfl rfl rfl rfl ?_
          refine ir_cVI (pc' := 52) rfl rfl rfl rfl rfl (Nat.le_of_ble_eq_true rfl) oo_X10_common2 vg_582 (w_common2 L ys d s hv (wga s 602 l6) r253 l4 l4r _ hW) (fun z255 s254 hr => ?_)
          obtain ⟨s254v, z255r, hW⟩ := hr
          obtain ⟨h256, hW⟩ := hW
          refine ir_s (pc' := 54) rfl rfl rfl rfl rfl rfl ?_
          refine ir_l (pc' := 55) rfl rfl rfl rfl rfl rfl ?_
          refine ir_vgr (pc' := 58) (c := 598) rfl rfl rfl rfl rfl s254v ?_
          refine ir_l (pc' := 60) rfl rfl rfl rfl rfl rfl ?_
          refine ir_via (pc' := 61) rfl rfl vg_598 rfl (Nat.le_of_ble_eq_true rfl) s254v rfl h256 (fun r257 => ?_)
          refine ir_z_le (pt := 129) (pc' := 64) rfl rfl rfl (fun c258 => ?_) (fun c258 => ?_)
          · have hW := hW.1 c258
            refine ir_w [(0, (2, ((582 : Nat) : Int))), (2, (0, l2)), (3, (0, l3)), (4, (0, l4)), (5, (0, l5)), (6, (0, l6))] ⟨rfl, rfl, rfl, rfl, rfl, rfl, trivial⟩ ?_
            exact J129 l4 l4r l6 l6r s254 s254v hW
          · have hW := hW.2 c258
            obtain ⟨h259, hW⟩ := hW
            refine ir_l (pc' := 65) rfl rfl rfl rfl rfl rfl ?_
            refine ir_l (pc' := 66) rfl rfl rfl rfl rfl rfl ?_
            refine ir_vgr (pc' := 69) (c := 602) rfl rfl rfl rfl rfl s254v ?_
            refine ir_l (pc' := 71) rfl rfl rfl rfl rfl rfl ?_
            refine ir_via (pc' := 72) rfl rfl vg_602 rfl (Nat.le_of_ble_eq_true rfl) s254v rfl h259 (fun r260 => ?_)
            refine ir_l (pc' := 74) rfl rfl rfl rfl rfl rfl ?_
            refine ir_cVI (pc' := 77) rfl rfl rfl rfl rfl (Nat.le_of_ble_eq_true rfl) oo_X10_share vg_582 (w_share L ys (d + 1) s254 s254v (wga s254 602 l6) r260 z255 z255r _ hW) (fun z262 s261 hr => ?_)
            obtain ⟨s261v, z262r, hW⟩ := hr
            obtain ⟨h263, hW⟩ := hW
            refine ir_s (pc' := 79) rfl rfl rfl rfl rfl rfl ?_
            refine ir_l (pc' := 80) rfl rfl rfl rfl rfl rfl ?_
            refine ir_vgr (pc' := 83) (c := 602) rfl rfl rfl rfl rfl s261v ?_
            refine ir_l (pc' := 85) rfl rfl rfl rfl rfl rfl ?_
            refine ir_l (pc' := 87) rfl rfl rfl rfl rfl rfl ?_
            refine ir_vis (pc' := 88) rfl rfl vg_602 rfl (Nat.le_of_ble_eq_true rfl) s261v rfl h263 z255r (fun s264 s264e s264v => ?_)
            have hW := hW s264 s264e
            obtain ⟨h265, hW⟩ := hW
            refine ir_l (pc' := 89) rfl rfl rfl rfl rfl rfl ?_
            refine ir_vgr (pc' := 92) (c := 598) rfl rfl rfl rfl rfl s264v ?_
            refine ir_l (pc' := 94) rfl rfl rfl rfl rfl rfl ?_
            refine ir_via (pc' := 95) rfl rfl vg_598 rfl (Nat.le_of_ble_eq_true rfl) s264v rfl h265 (fun r266 => ?_)
            refine ir_z_le (pt := 119) (pc' := 98) rfl rfl rfl (fun c267 => ?_) (fun c267 => ?_)
            · have hW := hW.1 c267
              refine ir_w [(0, (2, ((582 : Nat) : Int))), (2, (0, l2)), (3, (0, l3)), (4, (0, l4)), (5, (0, l5)), (6, (0, l6)), (7, (0, z255))] ⟨rfl, rfl, rfl, rfl, rfl, rfl, rfl, trivial⟩ ?_
              exact J119 l4 l4r l6 l6r z255 z255r s264 s264v hW
            · have hW := hW.2 c267
              obtain ⟨h269, hW⟩ := hW
              refine ir_l (pc' := 99) rfl rfl rfl rfl rfl rfl ?_
              refine ir_vgr (pc' := 102) (c := 602) rfl rfl rfl rfl rfl s264v ?_
              refine ir_l (pc' := 103) rfl rfl rfl rfl rfl rfl ?_
              refine ir_vgi (pc' := 106) rfl rfl rfl rfl rfl s264v (fun r268 => ?_)
              refine ir_l (pc' := 108) rfl rfl rfl rfl rfl rfl ?_
              refine ir_vis (pc' := 109) rfl rfl vg_602 rfl (Nat.le_of_ble_eq_true rfl) s264v rfl h269 z262r (fun s270 s270e s270v => ?_)
              have hW := hW s270 s270e
              obtain ⟨h272, hW⟩ := hW
              refine ir_l (pc' := 110) rfl rfl rfl rfl rfl rfl ?_
              refine ir_x (pc' := 111) rfl rfl rfl (fun _ => rfl) ?_
              refine ir_vgi (pc' := 114) rfl rfl rfl rfl rfl s270v (fun r271 => ?_)
              refine ir_k (pc' := 115) (v := (0, 1)) rfl rfl rfl (fun _ => rfl) ?_
              refine ir_add (pc' := 116) rfl rfl h272.1 h272.2 ?_
              refine ir_vpi (pc' := 119) rfl rfl rfl rfl rfl rfl rfl s270v h272 (fun s273 s273e s273v => ?_)
              have hW := hW s273 s273e
              refine ir_w [(0, (2, ((582 : Nat) : Int))), (2, (0, l2)), (3, (0, l3)), (4, (0, l4)), (5, (0, l5)), (6, (0, l6)), (7, (0, z255))] ⟨rfl, rfl, rfl, rfl, rfl, rfl, rfl, trivial⟩ ?_
              exact J119 l4 l4r l6 l6r z255 z255r s273 s273v hW
  unfold W_join at hW
  refine ir_l (pc' := 1) rfl rfl rfl rfl rfl rfl ?_
  refine ir_vgi (pc' := 4) rfl rfl rfl rfl rfl hv (fun r274 => ?_)
  refine ir_s (pc' := 5) rfl rfl rfl rfl rfl rfl ?_
  refine ir_l (pc' := 6) rfl rfl rfl rfl rfl rfl ?_
  refine ir_vgi (pc' := 9) rfl rfl rfl rfl rfl hv (fun r275 => ?_)
  refine ir_s (pc' := 10) rfl rfl rfl rfl rfl rfl ?_
  refine ir_l (pc' := 11) rfl rfl rfl rfl rfl rfl ?_
  refine ir_s (pc' := 13) rfl rfl rfl rfl rfl rfl ?_
  refine ir_l (pc' := 14) rfl rfl rfl rfl rfl rfl ?_
  refine ir_vgi (pc' := 17) rfl rfl rfl rfl rfl hv (fun r276 => ?_)
  refine ir_s (pc' := 19) rfl rfl rfl rfl rfl rfl ?_
  refine ir_k (pc' := 20) (v := (0, 0)) rfl rfl rfl (fun _ => rfl) ?_
  refine ir_s (pc' := 22) rfl rfl rfl rfl rfl rfl ?_
  refine ir_w [(0, (2, ((582 : Nat) : Int))), (2, (0, (wgf s 28))), (3, (0, (wgf s 24))), (4, (0, l1)), (5, (0, (wgf s 34))), (6, (0, 0))] ⟨rfl, rfl, rfl, rfl, rfl, rfl, trivial⟩ ?_
  obtain ⟨I9, r9, hI9, hB9⟩ := hW
  exact J22 (wgf s 28) r274 (wgf s 24) r275 (wgf s 34) r276 I9 r9 hB9 _ l1 l1r 0 (zR_i (Or.inl rfl)) s hv hI9 (Nat.lt_succ_self _)
def W_polynomialOf_9 (K9 : Int × im_S → Prop) (l1 : Int) (l2 : Int) (l3 : Int) (s : im_S) (Q : Int → im_S → Prop) : Prop := ((9 ≤ l3 → (W_clean l2 1 s (fun s2 => (Q l2 s2)))) ∧ (¬ (9 ≤ l3) → ((iR (9 * l1)) ∧ (0 ≤ ((9 * l1) + l3) ∧ ((9 * l1) + l3) < 90) ∧ (W_whole (wga s 584 ((9 * l1) + l3)) s (fun z9 s8 => (W_set l2 l3 z9 s8 (fun s10 => ((iR (l3 + 1)) ∧ (K9 ((l3 + 1), s10))))))))))
def W_polynomialOf (l1 : Int) (s : im_S) (Q : Int → im_S → Prop) : Prop := (W_newPolynomial 8 s (fun z14 s13 => (wloop (fun (K : Int × im_S → Prop) (a : Int × im_S) => W_polynomialOf_9 K l1 z14 a.1 a.2 Q) (0, s13))))
set_option maxRecDepth 16384 in
theorem w_polynomialOf (L : Nat) (ys : Nat → Int32) (d : Nat) (s : im_S) (hv : vI s) (l1 : Int) (l1r : iR l1) (Q : Int → im_S → Prop) (hW : W_polynomialOf l1 s Q) : icI gG rm_P L ys 0 (d + 8) 79 [(2, ((582 : Nat) : Int)), (0, l1)] s (fun z9 s9 => vI s9 ∧ iR z9 ∧ Q z9 s9) := by
  refine ic_startM (M := rm_p_X10_polynomialOf) om_X10_polynomialOf (Nat.le_of_ble_eq_true rfl) ?_
  refine ir_w [(0, (2, ((582 : Nat) : Int))), (1, (0, l1))] ⟨rfl, rfl, trivial⟩ ?_
  have J9 : ∀ (l1 : Int) (l1r : iR l1) (l2 : Int) (l2r : iR l2) (I9 : Int × im_S → Prop) (r9 : Int × im_S → Nat) (hB9 : ∀ a : Int × im_S, I9 a → W_polynomialOf_9 (fun b => I9 b ∧ r9 b < r9 a) l1 l2 a.1 a.2 Q), ∀ n9 : Nat, ∀ (l3 : Int) (l3r : iR l3) (s : im_S) (hv : vI s), I9 (l3, s) → r9 (l3, s) < n9 → ir gG rm_P L ys (d + 7) rm_p_X10_polynomialOf (9, [(0, (2, ((582 : Nat) : Int))), (1, (0, l1)), (2, (0, l2)), (3, (0, l3))], [], s) (fun r : im_Re => ∃ z, r.1 = some (0, z) ∧ (vI r.2 ∧ iR z ∧ Q z r.2)) := by
    intro l1 l1r l2 l2r I9 r9 hB9 n9
    induction n9 with
    | zero => intro l3 l3r s hv hI hr; exact absurd hr (Nat.not_lt_zero _)
    | succ n9 ih9 =>
      intro l3 l3r s hv hI hr9
      obtain ⟨t9, ht9⟩ : ∃ t9 : Int × im_S, t9 = (l3, s) := ⟨_, rfl⟩
      rw [← ht9] at hr9
      have hW : W_polynomialOf_9 (fun b => I9 b ∧ r9 b < r9 t9) l1 l2 l3 s Q := by have z := hB9 (l3, s) hI; rw [ht9]; exact z
      unfold W_polynomialOf_9 at hW
      refine ir_l (pc' := 10) rfl rfl rfl rfl rfl rfl ?_
      refine ir_k (pc' := 12) (v := (0, 9)) rfl rfl rfl (fun _ => rfl) ?_
      refine ir_c_ge (pt := 42) (pc' := 15) rfl rfl rfl (fun c1 => ?_) (fun c1 => ?_)
      · have hW := hW.1 c1
        refine ir_l (pc' := 43) rfl rfl rfl rfl rfl rfl ?_
        refine ir_l (pc' := 44) rfl rfl rfl rfl rfl rfl ?_
        refine ir_k (pc' := 45) (v := (0, 1)) rfl rfl rfl (fun _ => rfl) ?_
        refine ir_cVV (pc' := 48) rfl rfl rfl rfl rfl (Nat.le_of_ble_eq_true rfl) oo_X10_clean vg_582 (w_clean L ys d s hv l2 l2r 1 (Or.inr rfl) _ hW) (fun s2 hr => ?_)
        obtain ⟨s2v, hW⟩ := hr
        refine ir_l (pc' := 49) rfl rfl rfl rfl rfl rfl ?_
        exact ir_iret rfl rfl ⟨_, rfl, s2v, l2r, hW⟩
      · have hW := hW.2 c1
        obtain ⟨h4, h6, hW⟩ := hW
        have h5 : iR ((9 * l1) + l3) := ⟨by omega, by omega⟩
        refine ir_l (pc' := 16) rfl rfl rfl rfl rfl rfl ?_
        refine ir_l (pc' := 17) rfl rfl rfl rfl rfl rfl ?_
        refine ir_l (pc' := 18) rfl rfl rfl rfl rfl rfl ?_
        refine ir_l (pc' := 19) rfl rfl rfl rfl rfl rfl ?_
        refine ir_l (pc' := 20) rfl rfl rfl rfl rfl rfl ?_
        refine ir_vgr (pc' := 23) (c := 584) rfl rfl rfl rfl rfl hv ?_
        refine ir_k (pc' := 25) (v := (0, 9)) rfl rfl rfl (fun _ => rfl) ?_
        refine ir_l (pc' := 26) rfl rfl rfl rfl rfl rfl ?_
        refine ir_mul (pc' := 27) rfl rfl h4.1 h4.2 ?_
        refine ir_l (pc' := 28) rfl rfl rfl rfl rfl rfl ?_
        refine ir_add (pc' := 29) rfl rfl h5.1 h5.2 ?_
        refine ir_vla (pc' := 30) rfl rfl vg_584 rfl (Nat.le_of_ble_eq_true rfl) hv rfl h6 (fun r7 => ?_)
        refine ir_cVI (pc' := 33) rfl rfl rfl rfl rfl (Nat.le_of_ble_eq_true rfl) oo_X10_whole vg_582 (w_whole L ys (d + 6) s hv (wga s 584 ((9 * l1) + l3)) r7 _ hW) (fun z9 s8 hr => ?_)
        obtain ⟨s8v, z9r, hW⟩ := hr
        refine ir_cVV (pc' := 36) rfl rfl rfl rfl rfl (Nat.le_of_ble_eq_true rfl) oo_X10_set vg_582 (w_set L ys (d + 6) s8 s8v l2 l2r l3 l3r z9 z9r _ hW) (fun s10 hr => ?_)
        obtain ⟨s10v, hW⟩ := hr
        obtain ⟨h12, hW⟩ := hW
        refine ir_inc (pc' := 39) rfl rfl rfl rfl rfl h12.1 h12.2 ?_
        refine ir_goto (pc' := 9) rfl rfl ?_
        refine ir_w [(0, (2, ((582 : Nat) : Int))), (1, (0, l1)), (2, (0, l2)), (3, (0, (l3 + 1)))] ⟨rfl, rfl, rfl, rfl, trivial⟩ ?_
        exact ih9 (l3 + 1) h12 s10 s10v hW.1 (Nat.lt_of_lt_of_le hW.2 (Nat.le_of_lt_succ hr9))
  unfold W_polynomialOf at hW
  refine ir_l (pc' := 1) rfl rfl rfl rfl rfl rfl ?_
  refine ir_k (pc' := 3) (v := (0, 8)) rfl rfl rfl (fun _ => rfl) ?_
  refine ir_cVI (pc' := 6) rfl rfl rfl rfl rfl (Nat.le_of_ble_eq_true rfl) oo_X10_newPolynomial vg_582 (w_newPolynomial L ys (d + 6) s hv 8 (⟨by decide, by decide⟩ : iR 8) _ hW) (fun z14 s13 hr => ?_)
  obtain ⟨s13v, z14r, hW⟩ := hr
  refine ir_s (pc' := 7) rfl rfl rfl rfl rfl rfl ?_
  refine ir_k (pc' := 8) (v := (0, 0)) rfl rfl rfl (fun _ => rfl) ?_
  refine ir_s (pc' := 9) rfl rfl rfl rfl rfl rfl ?_
  refine ir_w [(0, (2, ((582 : Nat) : Int))), (1, (0, l1)), (2, (0, z14)), (3, (0, 0))] ⟨rfl, rfl, rfl, rfl, trivial⟩ ?_
  obtain ⟨I9, r9, hI9, hB9⟩ := hW
  exact J9 l1 l1r z14 z14r I9 r9 hB9 _ 0 (zR_i (Or.inl rfl)) s13 s13v hI9 (Nat.lt_succ_self _)
def W_part1_215 (K215 : Int × im_S → Prop) (l8 : Int) (s : im_S) (Q : im_S → Prop) : Prop := (((wgf s 36) ≤ l8 → (Q s)) ∧ (¬ ((wgf s 36) ≤ l8) → (W_comeBack s (fun z4 s3 => ((0 ≤ l8 ∧ l8 < 90) ∧ (∀ s6, s6 = wpa s3 603 l8 z4 → ((iR (l8 + 1)) ∧ (K215 ((l8 + 1), s6)))))))))
def W_part1_179 (K179 : Int × im_S → Prop) (l2 : Int) (l3 : Int) (l4 : Int) (l8 : Int) (s : im_S) (Q : im_S → Prop) : Prop := (((wgf s 36) ≤ l8 → (W_giveBack l2 l3 s (fun s10 => (wloop (fun (K : Int × im_S → Prop) (a : Int × im_S) => W_part1_215 K a.1 a.2 Q) (l4, s10))))) ∧ (¬ ((wgf s 36) ≤ l8) → ((0 ≤ l8 ∧ l8 < 90) ∧ (W_stay (wga s 603 l8) s (fun s14 => ((iR (l8 + 1)) ∧ (K179 ((l8 + 1), s14))))))))
def W_part1_150 (K68 : Int × Int × Int × im_S → Prop) (l1 : Int) (l2 : Int) (l3 : Int) (l4 : Int) (l6 : Int) (l8 : Int) (l9 : Int) (s : im_S) (Q : im_S → Prop) : Prop := (W_share l6 l9 s (fun z18 s17 => ((iR (l8 + 1)) ∧ (K68 (z18, l9, (l8 + 1), s17)))))
def W_part1_68 (K68 : Int × Int × Int × im_S → Prop) (l1 : Int) (l2 : Int) (l3 : Int) (l4 : Int) (l6 : Int) (l7 : Int) (l8 : Int) (s : im_S) (Q : im_S → Prop) : Prop := ((0 ≤ l7 ∧ l7 < 1200) ∧ (((wga s 598 l7) ≤ 0 → (∀ s23, s23 = wpf s 32 0 → (wloop (fun (K : Int × im_S → Prop) (a : Int × im_S) => W_part1_179 K l2 l3 l4 a.1 a.2 Q) (l4, s23)))) ∧ (¬ ((wga s 598 l7) ≤ 0) → (W_common2 l7 l6 s (fun z25 s24 => (W_share l7 z25 s24 (fun z27 s26 => ((0 ≤ z27 ∧ z27 < 1200) ∧ (((wga s26 598 z27) ≤ 0 → (W_part1_150 K68 l1 l2 l3 l4 l6 l8 z25 s26 Q)) ∧ (¬ ((wga s26 598 z27) ≤ 0) → ((0 ≤ (wgf s26 36) ∧ (wgf s26 36) < 90) ∧ (∀ s33, s33 = wpa s26 603 (wgf s26 36) z27 → ((0 ≤ (wgf s33 36) ∧ (wgf s33 36) < 90) ∧ (∀ s36, s36 = wpa s33 604 (wgf s33 36) l1 → ((0 ≤ (wgf s36 36) ∧ (wgf s36 36) < 90) ∧ (∀ s39, s39 = wpa s36 605 (wgf s36 36) l8 → ((iR ((wgf s39 36) + 1)) ∧ (∀ s42, s42 = wpf s39 36 ((wgf s39 36) + 1) → (W_part1_150 K68 l1 l2 l3 l4 l6 l8 z25 s42 Q)))))))))))))))))))
def W_part1 (l1 : Int) (s : im_S) (Q : im_S → Prop) : Prop := (W_polynomialOf l1 s (fun z47 s46 => ((0 ≤ z47 ∧ z47 < 1200) ∧ ((1 ≤ (wga s46 598 z47) → (W_derivative z47 s46 (fun z52 s51 => (W_common2 z47 z52 s51 (fun z54 s53 => (W_share z47 z54 s53 (fun z56 s55 => (wloop (fun (K : Int × Int × Int × im_S → Prop) (a : Int × Int × Int × im_S) => W_part1_68 K l1 (wgf s 28) (wgf s 24) (wgf s 36) a.1 a.2.1 a.2.2.1 a.2.2.2 Q) (z54, z56, 1, s55))))))))) ∧ (¬ (1 ≤ (wga s46 598 z47)) → (W_giveBack (wgf s 28) (wgf s 24) s46 (fun s57 => (Q s57))))))))
set_option maxRecDepth 16384 in
theorem w_part1 (L : Nat) (ys : Nat → Int32) (d : Nat) (s : im_S) (hv : vI s) (l1 : Int) (l1r : iR l1) (Q : im_S → Prop) (hW : W_part1 l1 s Q) : icV gG rm_P L ys (d + 10) 75 [(2, ((582 : Nat) : Int)), (0, l1)] s (fun s9 => vI s9 ∧ Q s9) := by
  refine ic_startM (M := rm_p_X10_part1) om_X10_part1 (Nat.le_of_ble_eq_true rfl) ?_
  refine ir_w [(0, (2, ((582 : Nat) : Int))), (1, (0, l1))] ⟨rfl, rfl, trivial⟩ ?_
  have J215 : ∀ (I215 : Int × im_S → Prop) (r215 : Int × im_S → Nat) (hB215 : ∀ a : Int × im_S, I215 a → W_part1_215 (fun b => I215 b ∧ r215 b < r215 a) a.1 a.2 Q), ∀ n215 : Nat, ∀ (l8 : Int) (l8r : iR l8) (s : im_S) (hv : vI s), I215 (l8, s) → r215 (l8, s) < n215 → ir gG rm_P L ys (d + 9) rm_p_X10_part1 (215, [(0, (2, ((582 : Nat) : Int))), (8, (0, l8))], [], s) (fun r : im_Re => r.1 = none ∧ (vI r.2 ∧ Q r.2)) := by
    intro I215 r215 hB215 n215
    induction n215 with
    | zero => intro l8 l8r s hv hI hr; exact absurd hr (Nat.not_lt_zero _)
    | succ n215 ih215 =>
      intro l8 l8r s hv hI hr215
      obtain ⟨t215, ht215⟩ : ∃ t215 : Int × im_S, t215 = (l8, s) := ⟨_, rfl⟩
      rw [← ht215] at hr215
      have hW : W_part1_215 (fun b => I215 b ∧ r215 b < r215 t215) l8 s Q := by have z := hB215 (l8, s) hI; rw [ht215]; exact z
      unfold W_part1_215 at hW
      refine ir_l (pc' := 217) rfl rfl rfl rfl rfl rfl ?_
      refine ir_l (pc' := 218) rfl rfl rfl rfl rfl rfl ?_
      refine ir_vgi (pc' := 221) rfl rfl rfl rfl rfl hv (fun r1 => ?_)
      refine ir_c_ge (pt := 241) (pc' := 224) rfl rfl rfl (fun c2 => ?_) (fun c2 => ?_)
      · have hW := hW.1 c2
        exact ir_vret rfl rfl ⟨rfl, hv, hW⟩
      · have hW := hW.2 c2
        refine ir_l (pc' := 225) rfl rfl rfl rfl rfl rfl ?_
        refine ir_vgr (pc' := 228) (c := 603) rfl rfl rfl rfl rfl hv ?_
        refine ir_l (pc' := 230) rfl rfl rfl rfl rfl rfl ?_
        refine ir_l (pc' := 231) rfl rfl rfl rfl rfl rfl ?_
        refine ir_cVI (pc' := 234) rfl rfl rfl rfl rfl (Nat.le_of_ble_eq_true rfl) oo_X10_comeBack vg_582 (w_comeBack L ys (d + 7) s hv  _ hW) (fun z4 s3 hr => ?_)
        obtain ⟨s3v, z4r, hW⟩ := hr
        obtain ⟨h5, hW⟩ := hW
        refine ir_vis (pc' := 235) rfl rfl vg_603 rfl (Nat.le_of_ble_eq_true rfl) s3v rfl h5 z4r (fun s6 s6e s6v => ?_)
        have hW := hW s6 s6e
        obtain ⟨h7, hW⟩ := hW
        refine ir_inc (pc' := 238) rfl rfl rfl rfl rfl h7.1 h7.2 ?_
        refine ir_goto (pc' := 215) rfl rfl ?_
        refine ir_w [(0, (2, ((582 : Nat) : Int))), (8, (0, (l8 + 1)))] ⟨rfl, rfl, trivial⟩ ?_
        exact ih215 (l8 + 1) h7 s6 s6v hW.1 (Nat.lt_of_lt_of_le hW.2 (Nat.le_of_lt_succ hr215))
  have J179 : ∀ (l2 : Int) (l2r : iR l2) (l3 : Int) (l3r : iR l3) (l4 : Int) (l4r : iR l4) (I179 : Int × im_S → Prop) (r179 : Int × im_S → Nat) (hB179 : ∀ a : Int × im_S, I179 a → W_part1_179 (fun b => I179 b ∧ r179 b < r179 a) l2 l3 l4 a.1 a.2 Q), ∀ n179 : Nat, ∀ (l8 : Int) (l8r : iR l8) (s : im_S) (hv : vI s), I179 (l8, s) → r179 (l8, s) < n179 → ir gG rm_P L ys (d + 9) rm_p_X10_part1 (179, [(0, (2, ((582 : Nat) : Int))), (2, (0, l2)), (3, (0, l3)), (4, (0, l4)), (8, (0, l8))], [], s) (fun r : im_Re => r.1 = none ∧ (vI r.2 ∧ Q r.2)) := by
    intro l2 l2r l3 l3r l4 l4r I179 r179 hB179 n179
    induction n179 with
    | zero => intro l8 l8r s hv hI hr; exact absurd hr (Nat.not_lt_zero _)
    | succ n179 ih179 =>
      intro l8 l8r s hv hI hr179
      obtain ⟨t179, ht179⟩ : ∃ t179 : Int × im_S, t179 = (l8, s) := ⟨_, rfl⟩
      rw [← ht179] at hr179
      have hW : W_part1_179 (fun b => I179 b ∧ r179 b < r179 t179) l2 l3 l4 l8 s Q := by have z := hB179 (l8, s) hI; rw [ht179]; exact z
      unfold W_part1_179 at hW
      refine ir_l (pc' := 181) rfl rfl rfl rfl rfl rfl ?_
      refine ir_l (pc' := 182) rfl rfl rfl rfl rfl rfl ?_
      refine ir_vgi (pc' := 185) rfl rfl rfl rfl rfl hv (fun r8 => ?_)
      refine ir_c_ge (pt := 205) (pc' := 188) rfl rfl rfl (fun c9 => ?_) (fun c9 => ?_)
      · have hW := hW.1 c9
        refine ir_l (pc' := 206) rfl rfl rfl rfl rfl rfl ?_
        refine ir_l (pc' := 207) rfl rfl rfl rfl rfl rfl ?_
        refine ir_l (pc' := 208) rfl rfl rfl rfl rfl rfl ?_
        refine ir_cVV (pc' := 211) rfl rfl rfl rfl rfl (Nat.le_of_ble_eq_true rfl) oo_X10_giveBack vg_582 (w_giveBack L ys (d + 8) s hv l2 l2r l3 l3r _ hW) (fun s10 hr => ?_)
        obtain ⟨s10v, hW⟩ := hr
        refine ir_l (pc' := 213) rfl rfl rfl rfl rfl rfl ?_
        refine ir_s (pc' := 215) rfl rfl rfl rfl rfl rfl ?_
        refine ir_w [(0, (2, ((582 : Nat) : Int))), (8, (0, l4))] ⟨rfl, rfl, trivial⟩ ?_
        obtain ⟨I9, r9, hI9, hB9⟩ := hW
        exact J215 I9 r9 hB9 _ l4 l4r s10 s10v hI9 (Nat.lt_succ_self _)
      · have hW := hW.2 c9
        obtain ⟨h12, hW⟩ := hW
        refine ir_l (pc' := 189) rfl rfl rfl rfl rfl rfl ?_
        refine ir_l (pc' := 190) rfl rfl rfl rfl rfl rfl ?_
        refine ir_vgr (pc' := 193) (c := 603) rfl rfl rfl rfl rfl hv ?_
        refine ir_l (pc' := 195) rfl rfl rfl rfl rfl rfl ?_
        refine ir_via (pc' := 196) rfl rfl vg_603 rfl (Nat.le_of_ble_eq_true rfl) hv rfl h12 (fun r13 => ?_)
        refine ir_cVV (pc' := 199) rfl rfl rfl rfl rfl (Nat.le_of_ble_eq_true rfl) oo_X10_stay vg_582 (w_stay L ys (d + 7) s hv (wga s 603 l8) r13 _ hW) (fun s14 hr => ?_)
        obtain ⟨s14v, hW⟩ := hr
        obtain ⟨h16, hW⟩ := hW
        refine ir_inc (pc' := 202) rfl rfl rfl rfl rfl h16.1 h16.2 ?_
        refine ir_goto (pc' := 179) rfl rfl ?_
        refine ir_w [(0, (2, ((582 : Nat) : Int))), (2, (0, l2)), (3, (0, l3)), (4, (0, l4)), (8, (0, (l8 + 1)))] ⟨rfl, rfl, rfl, rfl, rfl, trivial⟩ ?_
        exact ih179 (l8 + 1) h16 s14 s14v hW.1 (Nat.lt_of_lt_of_le hW.2 (Nat.le_of_lt_succ hr179))
  have J68 : ∀ (l1 : Int) (l1r : iR l1) (l2 : Int) (l2r : iR l2) (l3 : Int) (l3r : iR l3) (l4 : Int) (l4r : iR l4) (I68 : Int × Int × Int × im_S → Prop) (r68 : Int × Int × Int × im_S → Nat) (hB68 : ∀ a : Int × Int × Int × im_S, I68 a → W_part1_68 (fun b => I68 b ∧ r68 b < r68 a) l1 l2 l3 l4 a.1 a.2.1 a.2.2.1 a.2.2.2 Q), ∀ n68 : Nat, ∀ (l6 : Int) (l6r : iR l6) (l7 : Int) (l7r : iR l7) (l8 : Int) (l8r : iR l8) (s : im_S) (hv : vI s), I68 (l6, l7, l8, s) → r68 (l6, l7, l8, s) < n68 → ir gG rm_P L ys (d + 9) rm_p_X10_part1 (68, [(0, (2, ((582 : Nat) : Int))), (1, (0, l1)), (2, (0, l2)), (3, (0, l3)), (4, (0, l4)), (6, (0, l6)), (7, (0, l7)), (8, (0, l8))], [], s) (fun r : im_Re => r.1 = none ∧ (vI r.2 ∧ Q r.2)) := by
    intro l1 l1r l2 l2r l3 l3r l4 l4r I68 r68 hB68 n68
    induction n68 with
    | zero => intro l6 l6r l7 l7r l8 l8r s hv hI hr; exact absurd hr (Nat.not_lt_zero _)
    | succ n68 ih68 =>
      intro l6 l6r l7 l7r l8 l8r s hv hI hr68
      obtain ⟨t68, ht68⟩ : ∃ t68 : Int × Int × Int × im_S, t68 = (l6, l7, l8, s) := ⟨_, rfl⟩
      rw [← ht68] at hr68
      have hW : W_part1_68 (fun b => I68 b ∧ r68 b < r68 t68) l1 l2 l3 l4 l6 l7 l8 s Q := by have z := hB68 (l6, l7, l8, s) hI; rw [ht68]; exact z
      have J150 : ∀ (l6 : Int) (l6r : iR l6) (l8 : Int) (l8r : iR l8) (l9 : Int) (l9r : iR l9) (s : im_S) (hv : vI s), W_part1_150 (fun b => I68 b ∧ r68 b < r68 t68) l1 l2 l3 l4 l6 l8 l9 s Q → ir gG rm_P L ys (d + 9) rm_p_X10_part1 (150, [(0, (2, ((582 : Nat) : Int))), (1, (0, l1)), (2, (0, l2)), (3, (0, l3)), (4, (0, l4)), (6, (0, l6)), (8, (0, l8)), (9, (0, l9))], [], s) (fun r : im_Re => r.1 = none ∧ (vI r.2 ∧ Q r.2)) := by
        intro l6 l6r l8 l8r l9 l9r s hv hW
        unfold W_part1_150 at hW
        refine ir_l (pc' := 152) rfl rfl rfl rfl rfl rfl ?_
        refine ir_s (pc' := 154) rfl rfl rfl rfl rfl rfl ?_
        refine ir_l (pc' := 155) rfl rfl rfl rfl rfl rfl ?_
        refine ir_l (pc' := 157) rfl rfl rfl rfl rfl rfl ?_
        refine ir_l (pc' := 159) rfl rfl rfl rfl rfl rfl ?_
        refine ir_cVI (pc' := 162) rfl rfl rfl rfl rfl (Nat.le_of_ble_eq_true rfl) oo_X10_share vg_582 (w_share L ys (d + 1) s hv l6 l6r l9 l9r _ hW) (fun z18 s17 hr => ?_)
        obtain ⟨s17v, z18r, hW⟩ := hr
        obtain ⟨h19, hW⟩ := hW
        refine ir_s (pc' := 164) rfl rfl rfl rfl rfl rfl ?_
        refine ir_inc (pc' := 167) rfl rfl rfl rfl rfl h19.1 h19.2 ?_
        refine ir_goto (pc' := 68) rfl rfl ?_
        refine ir_w [(0, (2, ((582 : Nat) : Int))), (1, (0, l1)), (2, (0, l2)), (3, (0, l3)), (4, (0, l4)), (6, (0, z18)), (7, (0, l9)), (8, (0, (l8 + 1)))] ⟨rfl, rfl, rfl, rfl, rfl, rfl, rfl, rfl, trivial⟩ ?_
        exact ih68 z18 z18r l9 l9r (l8 + 1) h19 s17 s17v hW.1 (Nat.lt_of_lt_of_le hW.2 (Nat.le_of_lt_succ hr68))
      unfold W_part1_68 at hW
      obtain ⟨h20, hW⟩ := hW
      refine ir_l (pc' := 69) rfl rfl rfl rfl rfl rfl ?_
      refine ir_vgr (pc' := 72) (c := 598) rfl rfl rfl rfl rfl hv ?_
      refine ir_l (pc' := 74) rfl rfl rfl rfl rfl rfl ?_
      refine ir_via (pc' := 75) rfl rfl vg_598 rfl (Nat.le_of_ble_eq_true rfl) hv rfl h20 (fun r21 => ?_)
      refine ir_z_le (pt := 170) (pc' := 78) rfl rfl rfl (fun c22 => ?_) (fun c22 => ?_)
      · have hW := hW.1 c22
        refine ir_l (pc' := 171) rfl rfl rfl rfl rfl rfl ?_
        refine ir_k (pc' := 172) (v := (0, 0)) rfl rfl rfl (fun _ => rfl) ?_
        refine ir_vpi (pc' := 175) rfl rfl rfl rfl rfl rfl rfl hv (zR_i (Or.inl rfl)) (fun s23 s23e s23v => ?_)
        have hW := hW s23 s23e
        refine ir_l (pc' := 177) rfl rfl rfl rfl rfl rfl ?_
        refine ir_s (pc' := 179) rfl rfl rfl rfl rfl rfl ?_
        refine ir_w [(0, (2, ((582 : Nat) : Int))), (2, (0, l2)), (3, (0, l3)), (4, (0, l4)), (8, (0, l4))] ⟨rfl, rfl, rfl, rfl, rfl, trivial⟩ ?_
        obtain ⟨I9, r9, hI9, hB9⟩ := hW
        exact J179 l2 l2r l3 l3r l4 l4r I9 r9 hB9 _ l4 l4r s23 s23v hI9 (Nat.lt_succ_self _)
      · have hW := hW.2 c22
        refine ir_l (pc' := 79) rfl rfl rfl rfl rfl rfl ?_
        refine ir_l (pc' := 81) rfl rfl rfl rfl rfl rfl ?_
        refine ir_l (pc' := 83) rfl rfl rfl rfl rfl rfl ?_
        refine ir_cVI (pc' := 86) rfl rfl rfl rfl rfl (Nat.le_of_ble_eq_true rfl) oo_X10_common2 vg_582 (w_common2 L ys d s hv l7 l7r l6 l6r _ hW) (fun z25 s24 hr => ?_)
        obtain ⟨s24v, z25r, hW⟩ := hr
        refine ir_s (pc' := 88) rfl rfl rfl rfl rfl rfl ?_
        refine ir_l (pc' := 89) rfl rfl rfl rfl rfl rfl ?_
        refine ir_l (pc' := 91) rfl rfl rfl rfl rfl rfl ?_
        refine ir_l (pc' := 93) rfl rfl rfl rfl rfl rfl ?_
        refine ir_cVI (pc' := 96) rfl rfl rfl rfl rfl (Nat.le_of_ble_eq_true rfl) oo_X10_share vg_582 (w_share L ys (d + 1) s24 s24v l7 l7r z25 z25r _ hW) (fun z27 s26 hr => ?_)
        obtain ⟨s26v, z27r, hW⟩ := hr
        obtain ⟨h28, hW⟩ := hW
        refine ir_s (pc' := 98) rfl rfl rfl rfl rfl rfl ?_
        refine ir_l (pc' := 99) rfl rfl rfl rfl rfl rfl ?_
        refine ir_vgr (pc' := 102) (c := 598) rfl rfl rfl rfl rfl s26v ?_
        refine ir_l (pc' := 104) rfl rfl rfl rfl rfl rfl ?_
        refine ir_via (pc' := 105) rfl rfl vg_598 rfl (Nat.le_of_ble_eq_true rfl) s26v rfl h28 (fun r29 => ?_)
        refine ir_z_le (pt := 150) (pc' := 108) rfl rfl rfl (fun c30 => ?_) (fun c30 => ?_)
        · have hW := hW.1 c30
          refine ir_w [(0, (2, ((582 : Nat) : Int))), (1, (0, l1)), (2, (0, l2)), (3, (0, l3)), (4, (0, l4)), (6, (0, l6)), (8, (0, l8)), (9, (0, z25))] ⟨rfl, rfl, rfl, rfl, rfl, rfl, rfl, rfl, trivial⟩ ?_
          exact J150 l6 l6r l8 l8r z25 z25r s26 s26v hW
        · have hW := hW.2 c30
          obtain ⟨h32, hW⟩ := hW
          refine ir_l (pc' := 109) rfl rfl rfl rfl rfl rfl ?_
          refine ir_vgr (pc' := 112) (c := 603) rfl rfl rfl rfl rfl s26v ?_
          refine ir_l (pc' := 113) rfl rfl rfl rfl rfl rfl ?_
          refine ir_vgi (pc' := 116) rfl rfl rfl rfl rfl s26v (fun r31 => ?_)
          refine ir_l (pc' := 118) rfl rfl rfl rfl rfl rfl ?_
          refine ir_vis (pc' := 119) rfl rfl vg_603 rfl (Nat.le_of_ble_eq_true rfl) s26v rfl h32 z27r (fun s33 s33e s33v => ?_)
          have hW := hW s33 s33e
          obtain ⟨h35, hW⟩ := hW
          refine ir_l (pc' := 120) rfl rfl rfl rfl rfl rfl ?_
          refine ir_vgr (pc' := 123) (c := 604) rfl rfl rfl rfl rfl s33v ?_
          refine ir_l (pc' := 124) rfl rfl rfl rfl rfl rfl ?_
          refine ir_vgi (pc' := 127) rfl rfl rfl rfl rfl s33v (fun r34 => ?_)
          refine ir_l (pc' := 128) rfl rfl rfl rfl rfl rfl ?_
          refine ir_vis (pc' := 129) rfl rfl vg_604 rfl (Nat.le_of_ble_eq_true rfl) s33v rfl h35 l1r (fun s36 s36e s36v => ?_)
          have hW := hW s36 s36e
          obtain ⟨h38, hW⟩ := hW
          refine ir_l (pc' := 130) rfl rfl rfl rfl rfl rfl ?_
          refine ir_vgr (pc' := 133) (c := 605) rfl rfl rfl rfl rfl s36v ?_
          refine ir_l (pc' := 134) rfl rfl rfl rfl rfl rfl ?_
          refine ir_vgi (pc' := 137) rfl rfl rfl rfl rfl s36v (fun r37 => ?_)
          refine ir_l (pc' := 139) rfl rfl rfl rfl rfl rfl ?_
          refine ir_vis (pc' := 140) rfl rfl vg_605 rfl (Nat.le_of_ble_eq_true rfl) s36v rfl h38 l8r (fun s39 s39e s39v => ?_)
          have hW := hW s39 s39e
          obtain ⟨h41, hW⟩ := hW
          refine ir_l (pc' := 141) rfl rfl rfl rfl rfl rfl ?_
          refine ir_x (pc' := 142) rfl rfl rfl (fun _ => rfl) ?_
          refine ir_vgi (pc' := 145) rfl rfl rfl rfl rfl s39v (fun r40 => ?_)
          refine ir_k (pc' := 146) (v := (0, 1)) rfl rfl rfl (fun _ => rfl) ?_
          refine ir_add (pc' := 147) rfl rfl h41.1 h41.2 ?_
          refine ir_vpi (pc' := 150) rfl rfl rfl rfl rfl rfl rfl s39v h41 (fun s42 s42e s42v => ?_)
          have hW := hW s42 s42e
          refine ir_w [(0, (2, ((582 : Nat) : Int))), (1, (0, l1)), (2, (0, l2)), (3, (0, l3)), (4, (0, l4)), (6, (0, l6)), (8, (0, l8)), (9, (0, z25))] ⟨rfl, rfl, rfl, rfl, rfl, rfl, rfl, rfl, trivial⟩ ?_
          exact J150 l6 l6r l8 l8r z25 z25r s42 s42v hW
  unfold W_part1 at hW
  refine ir_l (pc' := 1) rfl rfl rfl rfl rfl rfl ?_
  refine ir_vgi (pc' := 4) rfl rfl rfl rfl rfl hv (fun r43 => ?_)
  refine ir_s (pc' := 5) rfl rfl rfl rfl rfl rfl ?_
  refine ir_l (pc' := 6) rfl rfl rfl rfl rfl rfl ?_
  refine ir_vgi (pc' := 9) rfl rfl rfl rfl rfl hv (fun r44 => ?_)
  refine ir_s (pc' := 10) rfl rfl rfl rfl rfl rfl ?_
  refine ir_l (pc' := 11) rfl rfl rfl rfl rfl rfl ?_
  refine ir_vgi (pc' := 14) rfl rfl rfl rfl rfl hv (fun r45 => ?_)
  refine ir_s (pc' := 16) rfl rfl rfl rfl rfl rfl ?_
  refine ir_l (pc' := 17) rfl rfl rfl rfl rfl rfl ?_
  refine ir_l (pc' := 18) rfl rfl rfl rfl rfl rfl ?_
  refine ir_cVI (pc' := 21) rfl rfl rfl rfl rfl (Nat.le_of_ble_eq_true rfl) oo_X10_polynomialOf vg_582 (w_polynomialOf L ys (d + 1) s hv l1 l1r _ hW) (fun z47 s46 hr => ?_)
  obtain ⟨s46v, z47r, hW⟩ := hr
  obtain ⟨h48, hW⟩ := hW
  refine ir_s (pc' := 23) rfl rfl rfl rfl rfl rfl ?_
  refine ir_l (pc' := 24) rfl rfl rfl rfl rfl rfl ?_
  refine ir_vgr (pc' := 27) (c := 598) rfl rfl rfl rfl rfl s46v ?_
  refine ir_l (pc' := 29) rfl rfl rfl rfl rfl rfl ?_
  refine ir_via (pc' := 30) rfl rfl vg_598 rfl (Nat.le_of_ble_eq_true rfl) s46v rfl h48 (fun r49 => ?_)
  refine ir_k (pc' := 31) (v := (0, 1)) rfl rfl rfl (fun _ => rfl) ?_
  refine ir_c_ge (pt := 41) (pc' := 34) rfl rfl rfl (fun c50 => ?_) (fun c50 => ?_)
  · have hW := hW.1 c50
    refine ir_l (pc' := 42) rfl rfl rfl rfl rfl rfl ?_
    refine ir_l (pc' := 44) rfl rfl rfl rfl rfl rfl ?_
    refine ir_l (pc' := 45) rfl rfl rfl rfl rfl rfl ?_
    refine ir_l (pc' := 47) rfl rfl rfl rfl rfl rfl ?_
    refine ir_cVI (pc' := 50) rfl rfl rfl rfl rfl (Nat.le_of_ble_eq_true rfl) oo_X10_derivative vg_582 (w_derivative L ys (d + 1) s46 s46v z47 z47r _ hW) (fun z52 s51 hr => ?_)
    obtain ⟨s51v, z52r, hW⟩ := hr
    refine ir_cVI (pc' := 53) rfl rfl rfl rfl rfl (Nat.le_of_ble_eq_true rfl) oo_X10_common2 vg_582 (w_common2 L ys d s51 s51v z47 z47r z52 z52r _ hW) (fun z54 s53 hr => ?_)
    obtain ⟨s53v, z54r, hW⟩ := hr
    refine ir_s (pc' := 55) rfl rfl rfl rfl rfl rfl ?_
    refine ir_l (pc' := 56) rfl rfl rfl rfl rfl rfl ?_
    refine ir_l (pc' := 58) rfl rfl rfl rfl rfl rfl ?_
    refine ir_l (pc' := 60) rfl rfl rfl rfl rfl rfl ?_
    refine ir_cVI (pc' := 63) rfl rfl rfl rfl rfl (Nat.le_of_ble_eq_true rfl) oo_X10_share vg_582 (w_share L ys (d + 1) s53 s53v z47 z47r z54 z54r _ hW) (fun z56 s55 hr => ?_)
    obtain ⟨s55v, z56r, hW⟩ := hr
    refine ir_s (pc' := 65) rfl rfl rfl rfl rfl rfl ?_
    refine ir_k (pc' := 66) (v := (0, 1)) rfl rfl rfl (fun _ => rfl) ?_
    refine ir_s (pc' := 68) rfl rfl rfl rfl rfl rfl ?_
    refine ir_w [(0, (2, ((582 : Nat) : Int))), (1, (0, l1)), (2, (0, (wgf s 28))), (3, (0, (wgf s 24))), (4, (0, (wgf s 36))), (6, (0, z54)), (7, (0, z56)), (8, (0, 1))] ⟨rfl, rfl, rfl, rfl, rfl, rfl, rfl, rfl, trivial⟩ ?_
    obtain ⟨I9, r9, hI9, hB9⟩ := hW
    exact J68 l1 l1r (wgf s 28) r43 (wgf s 24) r44 (wgf s 36) r45 I9 r9 hB9 _ z54 z54r z56 z56r 1 (zR_i (Or.inr rfl)) s55 s55v hI9 (Nat.lt_succ_self _)
  · have hW := hW.2 c50
    refine ir_l (pc' := 35) rfl rfl rfl rfl rfl rfl ?_
    refine ir_l (pc' := 36) rfl rfl rfl rfl rfl rfl ?_
    refine ir_l (pc' := 37) rfl rfl rfl rfl rfl rfl ?_
    refine ir_cVV (pc' := 40) rfl rfl rfl rfl rfl (Nat.le_of_ble_eq_true rfl) oo_X10_giveBack vg_582 (w_giveBack L ys (d + 8) s46 s46v (wgf s 28) r43 (wgf s 24) r44 _ hW) (fun s57 hr => ?_)
    obtain ⟨s57v, hW⟩ := hr
    exact ir_vret rfl rfl ⟨rfl, s57v, hW⟩
