/-! THE REFERENCE LIFTED, by program -/
def W_plus1 (l1 : Int) (l2 : Int) (s : im_S) (Q : Int → im_S → Prop) : Prop := (W_again l1 s (fun z2 s1 => (W_limbs z2 s1 (fun z4 s3 => ((0 ≤ z2 ∧ z2 < 700000) ∧ (∀ s6, s6 = wpa s3 597 z2 z4 → (W_plus z2 l2 s6 (fun z8 s7 => (Q z8 s7)))))))))
set_option maxRecDepth 16384 in
theorem w_plus1 (L : Nat) (ys : Nat → Int32) (d : Nat) (s : im_S) (hv : vI s) (l1 : Int) (l1r : iR l1) (l2 : Int) (l2r : iR l2) (Q : Int → im_S → Prop) (hW : W_plus1 l1 l2 s Q) : icI gG rm_P L ys 0 (d + 5) 78 [(2, ((582 : Nat) : Int)), (0, l1), (0, l2)] s (fun z9 s9 => vI s9 ∧ iR z9 ∧ Q z9 s9) := by
  refine ic_startM (M := rm_p_X10_plus1) om_X10_plus1 (Nat.le_of_ble_eq_true rfl) ?_
  refine ir_w [(0, (2, ((582 : Nat) : Int))), (1, (0, l1)), (2, (0, l2))] ⟨rfl, rfl, rfl, trivial⟩ ?_
  unfold W_plus1 at hW
  refine ir_l (pc' := 1) rfl rfl rfl rfl rfl rfl ?_
  refine ir_l (pc' := 2) rfl rfl rfl rfl rfl rfl ?_
  refine ir_cVI (pc' := 5) rfl rfl rfl rfl rfl (Nat.le_of_ble_eq_true rfl) oo_X10_again vg_582 (w_again L ys (d + 1) s hv l1 l1r _ hW) (fun z2 s1 hr => ?_)
  obtain ⟨s1v, z2r, hW⟩ := hr
  refine ir_s (pc' := 6) rfl rfl rfl rfl rfl rfl ?_
  refine ir_l (pc' := 7) rfl rfl rfl rfl rfl rfl ?_
  refine ir_vgr (pc' := 10) (c := 597) rfl rfl rfl rfl rfl s1v ?_
  refine ir_l (pc' := 11) rfl rfl rfl rfl rfl rfl ?_
  refine ir_l (pc' := 12) rfl rfl rfl rfl rfl rfl ?_
  refine ir_l (pc' := 13) rfl rfl rfl rfl rfl rfl ?_
  refine ir_cVI (pc' := 16) rfl rfl rfl rfl rfl (Nat.le_of_ble_eq_true rfl) oo_X10_limbs vg_582 (w_limbs L ys (d + 3) s1 s1v z2 z2r _ hW) (fun z4 s3 hr => ?_)
  obtain ⟨s3v, z4r, hW⟩ := hr
  obtain ⟨h5, hW⟩ := hW
  refine ir_vis (pc' := 17) rfl rfl vg_597 rfl (Nat.le_of_ble_eq_true rfl) s3v rfl h5 z4r (fun s6 s6e s6v => ?_)
  have hW := hW s6 s6e
  refine ir_l (pc' := 18) rfl rfl rfl rfl rfl rfl ?_
  refine ir_l (pc' := 19) rfl rfl rfl rfl rfl rfl ?_
  refine ir_l (pc' := 20) rfl rfl rfl rfl rfl rfl ?_
  refine ir_cVI (pc' := 23) rfl rfl rfl rfl rfl (Nat.le_of_ble_eq_true rfl) oo_X10_plus vg_582 (w_plus L ys d s6 s6v z2 z2r l2 l2r _ hW) (fun z8 s7 hr => ?_)
  obtain ⟨s7v, z8r, hW⟩ := hr
  exact ir_iret rfl rfl ⟨_, rfl, s7v, z8r, hW⟩
def W_makeChain_211 (K81 : Int × im_S → Prop) (l3 : Int) (s : im_S) (Q : im_S → Prop) : Prop := (K81 (l3, s))
def W_makeChain_136 (K81 : Int × im_S → Prop) (K136 : Int × im_S → Prop) (l4 : Int) (l5 : Int) (s : im_S) (Q : im_S → Prop) : Prop := ((0 ≤ l4 ∧ l4 < 1200) ∧ (((wga s 598 l4) < l5 → ((0 ≤ (wgf s 29) ∧ (wgf s 29) < 12) ∧ (∀ s6, s6 = wpa s 600 (wgf s 29) l4 → ((iR ((wgf s6 29) + 1)) ∧ (∀ s9, s9 = wpf s6 29 ((wgf s6 29) + 1) → ((0 ≤ l4 ∧ l4 < 1200) ∧ (∀ v212 : Int, v212 = (if (wga s9 598 l4) ≤ 0 then 0 else 1) → (W_makeChain_211 K81 v212 s9 Q)))))))) ∧ (¬ ((wga s 598 l4) < l5) → (W_at l4 l5 s (fun z215 s214 => (W_less z215 s214 (fun z217 s216 => (W_set l4 l5 z217 s216 (fun s218 => ((iR (l5 + 1)) ∧ (K136 ((l5 + 1), s218))))))))))))
def W_makeChain_81 (K81 : Int × im_S → Prop) (l3 : Int) (s : im_S) (Q : im_S → Prop) : Prop := ((l3 = 0 → (Q s)) ∧ (¬ (l3 = 0) → ((0 ≤ ((wgf s 29) - 2) ∧ ((wgf s 29) - 2) < 12) ∧ (0 ≤ ((wgf s 29) - 1) ∧ ((wgf s 29) - 1) < 12) ∧ (W_restOf (wga s 600 ((wgf s 29) - 2)) (wga s 600 ((wgf s 29) - 1)) s (fun z231 s230 => ((0 ≤ z231 ∧ z231 < 1200) ∧ (∀ v434 : Int, v434 = (if (wga s230 598 z231) < 0 then 0 else 1) → ((v434 = 0 → (W_makeChain_211 K81 v434 s230 Q)) ∧ (¬ (v434 = 0) → (wloop (fun (K : Int × im_S → Prop) (a : Int × im_S) => W_makeChain_136 K81 K z231 a.1 a.2 Q) (0, s230)))))))))))
def W_makeChain_18 (K18 : Int × im_S → Prop) (l1 : Int) (l2 : Int) (l3 : Int) (s : im_S) (Q : im_S → Prop) : Prop := ((0 ≤ l1 ∧ l1 < 1200) ∧ (((wga s 598 l1) < l3 → ((0 ≤ (0 : Int) ∧ (0 : Int) < 12) ∧ (∀ s441, s441 = wpa s 600 0 l2 → ((0 ≤ l1 ∧ l1 < 1200) ∧ ((¬ ((wga s441 598 l1) = 0) → (W_derivative l1 s441 (fun z446 s445 => ((0 ≤ (1 : Int) ∧ (1 : Int) < 12) ∧ (∀ s448, s448 = wpa s445 600 1 z446 → (∀ s449, s449 = wpf s448 29 2 → (wloop (fun (K : Int × im_S → Prop) (a : Int × im_S) => W_makeChain_81 K a.1 a.2 Q) (1, s449)))))))) ∧ ((wga s441 598 l1) = 0 → (Q s441))))))) ∧ (¬ ((wga s 598 l1) < l3) → (W_at l1 l3 s (fun z451 s450 => (W_set l2 l3 z451 s450 (fun s452 => ((iR (l3 + 1)) ∧ (K18 ((l3 + 1), s452))))))))))
def W_makeChain (l1 : Int) (s : im_S) (Q : im_S → Prop) : Prop := (∀ s455, s455 = wpf s 29 1 → ((0 ≤ l1 ∧ l1 < 1200) ∧ (W_newPolynomial (wga s455 598 l1) s455 (fun z459 s458 => (wloop (fun (K : Int × im_S → Prop) (a : Int × im_S) => W_makeChain_18 K l1 z459 a.1 a.2 Q) (0, s458))))))
set_option maxRecDepth 16384 in
theorem w_makeChain (L : Nat) (ys : Nat → Int32) (d : Nat) (s : im_S) (hv : vI s) (l1 : Int) (l1r : iR l1) (Q : im_S → Prop) (hW : W_makeChain l1 s Q) : icV gG rm_P L ys (d + 9) 68 [(2, ((582 : Nat) : Int)), (0, l1)] s (fun s9 => vI s9 ∧ Q s9) := by
  refine ic_startM (M := rm_p_X10_makeChain) om_X10_makeChain (Nat.le_of_ble_eq_true rfl) ?_
  refine ir_w [(0, (2, ((582 : Nat) : Int))), (1, (0, l1))] ⟨rfl, rfl, trivial⟩ ?_
  have J81 : ∀ (I81 : Int × im_S → Prop) (r81 : Int × im_S → Nat) (hB81 : ∀ a : Int × im_S, I81 a → W_makeChain_81 (fun b => I81 b ∧ r81 b < r81 a) a.1 a.2 Q), ∀ n81 : Nat, ∀ (l3 : Int) (l3r : iR l3) (s : im_S) (hv : vI s), I81 (l3, s) → r81 (l3, s) < n81 → ir gG rm_P L ys (d + 8) rm_p_X10_makeChain (81, [(0, (2, ((582 : Nat) : Int))), (3, (0, l3))], [], s) (fun r : im_Re => r.1 = none ∧ (vI r.2 ∧ Q r.2)) := by
    intro I81 r81 hB81 n81
    induction n81 with
    | zero => intro l3 l3r s hv hI hr; exact absurd hr (Nat.not_lt_zero _)
    | succ n81 ih81 =>
      intro l3 l3r s hv hI hr81
      obtain ⟨t81, ht81⟩ : ∃ t81 : Int × im_S, t81 = (l3, s) := ⟨_, rfl⟩
      rw [← ht81] at hr81
      have hW : W_makeChain_81 (fun b => I81 b ∧ r81 b < r81 t81) l3 s Q := by have z := hB81 (l3, s) hI; rw [ht81]; exact z
      have J211 : ∀ (l3 : Int) (l3r : iR l3) (s : im_S) (hv : vI s), W_makeChain_211 (fun b => I81 b ∧ r81 b < r81 t81) l3 s Q → ir gG rm_P L ys (d + 8) rm_p_X10_makeChain (211, [(0, (2, ((582 : Nat) : Int))), (3, (0, l3))], [], s) (fun r : im_Re => r.1 = none ∧ (vI r.2 ∧ Q r.2)) := by
        intro l3 l3r s hv hW
        unfold W_makeChain_211 at hW
        refine ir_goto (pc' := 81) rfl rfl ?_
        refine ir_w [(0, (2, ((582 : Nat) : Int))), (3, (0, l3))] ⟨rfl, rfl, trivial⟩ ?_
        exact ih81 l3 l3r s hv hW.1 (Nat.lt_of_lt_of_le hW.2 (Nat.le_of_lt_succ hr81))
      have J136 : ∀ (l4 : Int) (l4r : iR l4) (I136 : Int × im_S → Prop) (r136 : Int × im_S → Nat) (hB136 : ∀ a : Int × im_S, I136 a → W_makeChain_136 (fun b => I81 b ∧ r81 b < r81 t81) (fun b => I136 b ∧ r136 b < r136 a) l4 a.1 a.2 Q), ∀ n136 : Nat, ∀ (l5 : Int) (l5r : iR l5) (s : im_S) (hv : vI s), I136 (l5, s) → r136 (l5, s) < n136 → ir gG rm_P L ys (d + 8) rm_p_X10_makeChain (136, [(0, (2, ((582 : Nat) : Int))), (4, (0, l4)), (5, (0, l5))], [], s) (fun r : im_Re => r.1 = none ∧ (vI r.2 ∧ Q r.2)) := by
        intro l4 l4r I136 r136 hB136 n136
        induction n136 with
        | zero => intro l5 l5r s hv hI hr; exact absurd hr (Nat.not_lt_zero _)
        | succ n136 ih136 =>
          intro l5 l5r s hv hI hr136
          obtain ⟨t136, ht136⟩ : ∃ t136 : Int × im_S, t136 = (l5, s) := ⟨_, rfl⟩
          rw [← ht136] at hr136
          have hW : W_makeChain_136 (fun b => I81 b ∧ r81 b < r81 t81) (fun b => I136 b ∧ r136 b < r136 t136) l4 l5 s Q := by have z := hB136 (l5, s) hI; rw [ht136]; exact z
          unfold W_makeChain_136 at hW
          obtain ⟨h1, hW⟩ := hW
          refine ir_l (pc' := 138) rfl rfl rfl rfl rfl rfl ?_
          refine ir_l (pc' := 139) rfl rfl rfl rfl rfl rfl ?_
          refine ir_vgr (pc' := 142) (c := 598) rfl rfl rfl rfl rfl hv ?_
          refine ir_l (pc' := 144) rfl rfl rfl rfl rfl rfl ?_
          refine ir_via (pc' := 145) rfl rfl vg_598 rfl (Nat.le_of_ble_eq_true rfl) hv rfl h1 (fun r2 => ?_)
          refine ir_c_gt (pt := 174) (pc' := 148) rfl rfl rfl (fun c3 => ?_) (fun c3 => ?_)
          · have hW := hW.1 c3
            obtain ⟨h5, hW⟩ := hW
            refine ir_l (pc' := 175) rfl rfl rfl rfl rfl rfl ?_
            refine ir_vgr (pc' := 178) (c := 600) rfl rfl rfl rfl rfl hv ?_
            refine ir_l (pc' := 179) rfl rfl rfl rfl rfl rfl ?_
            refine ir_vgi (pc' := 182) rfl rfl rfl rfl rfl hv (fun r4 => ?_)
            refine ir_l (pc' := 184) rfl rfl rfl rfl rfl rfl ?_
            refine ir_vis (pc' := 185) rfl rfl vg_600 rfl (Nat.le_of_ble_eq_true rfl) hv rfl h5 l4r (fun s6 s6e s6v => ?_)
            have hW := hW s6 s6e
            obtain ⟨h8, hW⟩ := hW
            refine ir_l (pc' := 186) rfl rfl rfl rfl rfl rfl ?_
            refine ir_x (pc' := 187) rfl rfl rfl (fun _ => rfl) ?_
            refine ir_vgi (pc' := 190) rfl rfl rfl rfl rfl s6v (fun r7 => ?_)
            refine ir_k (pc' := 191) (v := (0, 1)) rfl rfl rfl (fun _ => rfl) ?_
            refine ir_add (pc' := 192) rfl rfl h8.1 h8.2 ?_
            refine ir_vpi (pc' := 195) rfl rfl rfl rfl rfl rfl rfl s6v h8 (fun s9 s9e s9v => ?_)
            have hW := hW s9 s9e
            obtain ⟨h10, hW⟩ := hW
            refine ir_l (pc' := 196) rfl rfl rfl rfl rfl rfl ?_
            refine ir_vgr (pc' := 199) (c := 598) rfl rfl rfl rfl rfl s9v ?_
            refine ir_l (pc' := 201) rfl rfl rfl rfl rfl rfl ?_
            refine ir_via (pc' := 202) rfl rfl vg_598 rfl (Nat.le_of_ble_eq_true rfl) s9v rfl h10 (fun r11 => ?_)
            have J213 : ∀ v212 : Int, zR v212 → ((W_makeChain_211 (fun b => I81 b ∧ r81 b < r81 t81) v212 s9 Q)) → ir gG rm_P L ys (d + 8) rm_p_X10_makeChain (210, [(0, (2, ((582 : Nat) : Int)))], [(0, v212)], s9) (fun r : im_Re => r.1 = none ∧ (vI r.2 ∧ Q r.2)) := by
              intro v212 v212r hW
              refine ir_s (pc' := 211) rfl rfl rfl rfl rfl rfl ?_
              refine ir_w [(0, (2, ((582 : Nat) : Int))), (3, (0, v212))] ⟨rfl, rfl, trivial⟩ ?_
              exact J211 v212 (zR_i v212r) s9 s9v hW
            refine ir_z_le (pt := 209) (pc' := 205) rfl rfl rfl (fun c12 => ?_) (fun c12 => ?_)
            · refine ir_k (pc' := 210) (v := (0, 0)) rfl rfl rfl (fun _ => rfl) ?_
              refine ir_w [(0, (2, ((582 : Nat) : Int)))] ⟨rfl, trivial⟩ ?_
              exact J213 0 (Or.inl rfl) (hW _ (by rw [if_pos c12]))
            · refine ir_k (pc' := 206) (v := (0, 1)) rfl rfl rfl (fun _ => rfl) ?_
              refine ir_goto (pc' := 210) rfl rfl ?_
              refine ir_w [(0, (2, ((582 : Nat) : Int)))] ⟨rfl, trivial⟩ ?_
              exact J213 1 (Or.inr rfl) (hW _ (by rw [if_neg (fun z => c12 z)]))
          · have hW := hW.2 c3
            refine ir_l (pc' := 149) rfl rfl rfl rfl rfl rfl ?_
            refine ir_l (pc' := 151) rfl rfl rfl rfl rfl rfl ?_
            refine ir_l (pc' := 153) rfl rfl rfl rfl rfl rfl ?_
            refine ir_l (pc' := 154) rfl rfl rfl rfl rfl rfl ?_
            refine ir_l (pc' := 155) rfl rfl rfl rfl rfl rfl ?_
            refine ir_l (pc' := 157) rfl rfl rfl rfl rfl rfl ?_
            refine ir_l (pc' := 159) rfl rfl rfl rfl rfl rfl ?_
            refine ir_cVI (pc' := 162) rfl rfl rfl rfl rfl (Nat.le_of_ble_eq_true rfl) oo_X10_at vg_582 (w_at L ys (d + 7) s hv l4 l4r l5 l5r _ hW) (fun z215 s214 hr => ?_)
            obtain ⟨s214v, z215r, hW⟩ := hr
            refine ir_cVI (pc' := 165) rfl rfl rfl rfl rfl (Nat.le_of_ble_eq_true rfl) oo_X10_less vg_582 (w_less L ys (d + 4) s214 s214v z215 z215r _ hW) (fun z217 s216 hr => ?_)
            obtain ⟨s216v, z217r, hW⟩ := hr
            refine ir_cVV (pc' := 168) rfl rfl rfl rfl rfl (Nat.le_of_ble_eq_true rfl) oo_X10_set vg_582 (w_set L ys (d + 7) s216 s216v l4 l4r l5 l5r z217 z217r _ hW) (fun s218 hr => ?_)
            obtain ⟨s218v, hW⟩ := hr
            obtain ⟨h220, hW⟩ := hW
            refine ir_inc (pc' := 171) rfl rfl rfl rfl rfl h220.1 h220.2 ?_
            refine ir_goto (pc' := 136) rfl rfl ?_
            refine ir_w [(0, (2, ((582 : Nat) : Int))), (4, (0, l4)), (5, (0, (l5 + 1)))] ⟨rfl, rfl, rfl, trivial⟩ ?_
            exact ih136 (l5 + 1) h220 s218 s218v hW.1 (Nat.lt_of_lt_of_le hW.2 (Nat.le_of_lt_succ hr136))
      unfold W_makeChain_81 at hW
      refine ir_l (pc' := 82) rfl rfl rfl rfl rfl rfl ?_
      refine ir_z_eq (pt := 214) (pc' := 85) rfl rfl rfl (fun c221 => ?_) (fun c221 => ?_)
      · have hW := hW.1 c221
        exact ir_vret rfl rfl ⟨rfl, hv, hW⟩
      · have hW := hW.2 c221
        obtain ⟨h224, h228, hW⟩ := hW
        have h223 : iR ((wgf s 29) - 2) := ⟨by omega, by omega⟩
        have h227 : iR ((wgf s 29) - 1) := ⟨by omega, by omega⟩
        refine ir_l (pc' := 86) rfl rfl rfl rfl rfl rfl ?_
        refine ir_l (pc' := 87) rfl rfl rfl rfl rfl rfl ?_
        refine ir_vgr (pc' := 90) (c := 600) rfl rfl rfl rfl rfl hv ?_
        refine ir_l (pc' := 91) rfl rfl rfl rfl rfl rfl ?_
        refine ir_vgi (pc' := 94) rfl rfl rfl rfl rfl hv (fun r222 => ?_)
        refine ir_k (pc' := 95) (v := (0, 2)) rfl rfl rfl (fun _ => rfl) ?_
        refine ir_sub (pc' := 96) rfl rfl h223.1 h223.2 ?_
        refine ir_via (pc' := 97) rfl rfl vg_600 rfl (Nat.le_of_ble_eq_true rfl) hv rfl h224 (fun r225 => ?_)
        refine ir_l (pc' := 98) rfl rfl rfl rfl rfl rfl ?_
        refine ir_vgr (pc' := 101) (c := 600) rfl rfl rfl rfl rfl hv ?_
        refine ir_l (pc' := 102) rfl rfl rfl rfl rfl rfl ?_
        refine ir_vgi (pc' := 105) rfl rfl rfl rfl rfl hv (fun r226 => ?_)
        refine ir_k (pc' := 106) (v := (0, 1)) rfl rfl rfl (fun _ => rfl) ?_
        refine ir_sub (pc' := 107) rfl rfl h227.1 h227.2 ?_
        refine ir_via (pc' := 108) rfl rfl vg_600 rfl (Nat.le_of_ble_eq_true rfl) hv rfl h228 (fun r229 => ?_)
        refine ir_cVI (pc' := 111) rfl rfl rfl rfl rfl (Nat.le_of_ble_eq_true rfl) oo_X10_restOf vg_582 (w_restOf L ys d s hv (wga s 600 ((wgf s 29) - 2)) r225 (wga s 600 ((wgf s 29) - 1)) r229 _ hW) (fun z231 s230 hr => ?_)
        obtain ⟨s230v, z231r, hW⟩ := hr
        obtain ⟨h232, hW⟩ := hW
        refine ir_s (pc' := 113) rfl rfl rfl rfl rfl rfl ?_
        refine ir_l (pc' := 114) rfl rfl rfl rfl rfl rfl ?_
        refine ir_vgr (pc' := 117) (c := 598) rfl rfl rfl rfl rfl s230v ?_
        refine ir_l (pc' := 119) rfl rfl rfl rfl rfl rfl ?_
        refine ir_via (pc' := 120) rfl rfl vg_598 rfl (Nat.le_of_ble_eq_true rfl) s230v rfl h232 (fun r233 => ?_)
        have J435 : ∀ v434 : Int, zR v434 → (((v434 = 0 → (W_makeChain_211 (fun b => I81 b ∧ r81 b < r81 t81) v434 s230 Q)) ∧ (¬ (v434 = 0) → (wloop (fun (K : Int × im_S → Prop) (a : Int × im_S) => W_makeChain_136 (fun b => I81 b ∧ r81 b < r81 t81) K z231 a.1 a.2 Q) (0, s230))))) → ir gG rm_P L ys (d + 8) rm_p_X10_makeChain (128, [(0, (2, ((582 : Nat) : Int))), (4, (0, z231))], [(0, v434)], s230) (fun r : im_Re => r.1 = none ∧ (vI r.2 ∧ Q r.2)) := by
          intro v434 v434r hW
          refine ir_s (pc' := 129) rfl rfl rfl rfl rfl rfl ?_
          refine ir_l (pc' := 130) rfl rfl rfl rfl rfl rfl ?_
          refine ir_z_eq (pt := 211) (pc' := 133) rfl rfl rfl (fun c436 => ?_) (fun c436 => ?_)
          · have hW := hW.1 c436
            refine ir_w [(0, (2, ((582 : Nat) : Int))), (3, (0, v434))] ⟨rfl, rfl, trivial⟩ ?_
            exact J211 v434 (zR_i v434r) s230 s230v hW
          · have hW := hW.2 c436
            refine ir_k (pc' := 134) (v := (0, 0)) rfl rfl rfl (fun _ => rfl) ?_
            refine ir_s (pc' := 136) rfl rfl rfl rfl rfl rfl ?_
            refine ir_w [(0, (2, ((582 : Nat) : Int))), (4, (0, z231)), (5, (0, 0))] ⟨rfl, rfl, rfl, trivial⟩ ?_
            obtain ⟨I9, r9, hI9, hB9⟩ := hW
            exact J136 z231 z231r I9 r9 hB9 _ 0 (zR_i (Or.inl rfl)) s230 s230v hI9 (Nat.lt_succ_self _)
        refine ir_z_lt (pt := 127) (pc' := 123) rfl rfl rfl (fun c234 => ?_) (fun c234 => ?_)
        · refine ir_k (pc' := 128) (v := (0, 0)) rfl rfl rfl (fun _ => rfl) ?_
          refine ir_w [(0, (2, ((582 : Nat) : Int))), (4, (0, z231))] ⟨rfl, rfl, trivial⟩ ?_
          exact J435 0 (Or.inl rfl) (hW _ (by rw [if_pos c234]))
        · refine ir_k (pc' := 124) (v := (0, 1)) rfl rfl rfl (fun _ => rfl) ?_
          refine ir_goto (pc' := 128) rfl rfl ?_
          refine ir_w [(0, (2, ((582 : Nat) : Int))), (4, (0, z231))] ⟨rfl, rfl, trivial⟩ ?_
          exact J435 1 (Or.inr rfl) (hW _ (by rw [if_neg (fun z => c234 z)]))
  have J18 : ∀ (l1 : Int) (l1r : iR l1) (l2 : Int) (l2r : iR l2) (I18 : Int × im_S → Prop) (r18 : Int × im_S → Nat) (hB18 : ∀ a : Int × im_S, I18 a → W_makeChain_18 (fun b => I18 b ∧ r18 b < r18 a) l1 l2 a.1 a.2 Q), ∀ n18 : Nat, ∀ (l3 : Int) (l3r : iR l3) (s : im_S) (hv : vI s), I18 (l3, s) → r18 (l3, s) < n18 → ir gG rm_P L ys (d + 8) rm_p_X10_makeChain (18, [(0, (2, ((582 : Nat) : Int))), (1, (0, l1)), (2, (0, l2)), (3, (0, l3))], [], s) (fun r : im_Re => r.1 = none ∧ (vI r.2 ∧ Q r.2)) := by
    intro l1 l1r l2 l2r I18 r18 hB18 n18
    induction n18 with
    | zero => intro l3 l3r s hv hI hr; exact absurd hr (Nat.not_lt_zero _)
    | succ n18 ih18 =>
      intro l3 l3r s hv hI hr18
      obtain ⟨t18, ht18⟩ : ∃ t18 : Int × im_S, t18 = (l3, s) := ⟨_, rfl⟩
      rw [← ht18] at hr18
      have hW : W_makeChain_18 (fun b => I18 b ∧ r18 b < r18 t18) l1 l2 l3 s Q := by have z := hB18 (l3, s) hI; rw [ht18]; exact z
      unfold W_makeChain_18 at hW
      obtain ⟨h437, hW⟩ := hW
      refine ir_l (pc' := 19) rfl rfl rfl rfl rfl rfl ?_
      refine ir_l (pc' := 20) rfl rfl rfl rfl rfl rfl ?_
      refine ir_vgr (pc' := 23) (c := 598) rfl rfl rfl rfl rfl hv ?_
      refine ir_l (pc' := 24) rfl rfl rfl rfl rfl rfl ?_
      refine ir_via (pc' := 25) rfl rfl vg_598 rfl (Nat.le_of_ble_eq_true rfl) hv rfl h437 (fun r438 => ?_)
      refine ir_c_gt (pt := 46) (pc' := 28) rfl rfl rfl (fun c439 => ?_) (fun c439 => ?_)
      · have hW := hW.1 c439
        obtain ⟨h440, hW⟩ := hW
        refine ir_l (pc' := 47) rfl rfl rfl rfl rfl rfl ?_
        refine ir_vgr (pc' := 50) (c := 600) rfl rfl rfl rfl rfl hv ?_
        refine ir_k (pc' := 51) (v := (0, 0)) rfl rfl rfl (fun _ => rfl) ?_
        refine ir_l (pc' := 52) rfl rfl rfl rfl rfl rfl ?_
        refine ir_vis (pc' := 53) rfl rfl vg_600 rfl (Nat.le_of_ble_eq_true rfl) hv rfl h440 l2r (fun s441 s441e s441v => ?_)
        have hW := hW s441 s441e
        obtain ⟨h442, hW⟩ := hW
        refine ir_l (pc' := 54) rfl rfl rfl rfl rfl rfl ?_
        refine ir_vgr (pc' := 57) (c := 598) rfl rfl rfl rfl rfl s441v ?_
        refine ir_l (pc' := 58) rfl rfl rfl rfl rfl rfl ?_
        refine ir_via (pc' := 59) rfl rfl vg_598 rfl (Nat.le_of_ble_eq_true rfl) s441v rfl h442 (fun r443 => ?_)
        refine ir_z_ne (pt := 63) (pc' := 62) rfl rfl rfl (fun c444 => ?_) (fun c444 => ?_)
        · have hW := hW.1 c444
          refine ir_l (pc' := 64) rfl rfl rfl rfl rfl rfl ?_
          refine ir_vgr (pc' := 67) (c := 600) rfl rfl rfl rfl rfl s441v ?_
          refine ir_k (pc' := 68) (v := (0, 1)) rfl rfl rfl (fun _ => rfl) ?_
          refine ir_l (pc' := 69) rfl rfl rfl rfl rfl rfl ?_
          refine ir_l (pc' := 70) rfl rfl rfl rfl rfl rfl ?_
          refine ir_cVI (pc' := 73) rfl rfl rfl rfl rfl (Nat.le_of_ble_eq_true rfl) oo_X10_derivative vg_582 (w_derivative L ys d s441 s441v l1 l1r _ hW) (fun z446 s445 hr => ?_)
          obtain ⟨s445v, z446r, hW⟩ := hr
          obtain ⟨h447, hW⟩ := hW
          refine ir_vis (pc' := 74) rfl rfl vg_600 rfl (Nat.le_of_ble_eq_true rfl) s445v rfl h447 z446r (fun s448 s448e s448v => ?_)
          have hW := hW s448 s448e
          refine ir_l (pc' := 75) rfl rfl rfl rfl rfl rfl ?_
          refine ir_k (pc' := 76) (v := (0, 2)) rfl rfl rfl (fun _ => rfl) ?_
          refine ir_vpi (pc' := 79) rfl rfl rfl rfl rfl rfl rfl s448v (⟨by decide, by decide⟩ : iR 2) (fun s449 s449e s449v => ?_)
          have hW := hW s449 s449e
          refine ir_k (pc' := 80) (v := (0, 1)) rfl rfl rfl (fun _ => rfl) ?_
          refine ir_s (pc' := 81) rfl rfl rfl rfl rfl rfl ?_
          refine ir_w [(0, (2, ((582 : Nat) : Int))), (3, (0, 1))] ⟨rfl, rfl, trivial⟩ ?_
          obtain ⟨I9, r9, hI9, hB9⟩ := hW
          exact J81 I9 r9 hB9 _ 1 (zR_i (Or.inr rfl)) s449 s449v hI9 (Nat.lt_succ_self _)
        · have hW := hW.2 c444
          exact ir_vret rfl rfl ⟨rfl, s441v, hW⟩
      · have hW := hW.2 c439
        refine ir_l (pc' := 29) rfl rfl rfl rfl rfl rfl ?_
        refine ir_l (pc' := 30) rfl rfl rfl rfl rfl rfl ?_
        refine ir_l (pc' := 31) rfl rfl rfl rfl rfl rfl ?_
        refine ir_l (pc' := 32) rfl rfl rfl rfl rfl rfl ?_
        refine ir_l (pc' := 33) rfl rfl rfl rfl rfl rfl ?_
        refine ir_l (pc' := 34) rfl rfl rfl rfl rfl rfl ?_
        refine ir_cVI (pc' := 37) rfl rfl rfl rfl rfl (Nat.le_of_ble_eq_true rfl) oo_X10_at vg_582 (w_at L ys (d + 7) s hv l1 l1r l3 l3r _ hW) (fun z451 s450 hr => ?_)
        obtain ⟨s450v, z451r, hW⟩ := hr
        refine ir_cVV (pc' := 40) rfl rfl rfl rfl rfl (Nat.le_of_ble_eq_true rfl) oo_X10_set vg_582 (w_set L ys (d + 7) s450 s450v l2 l2r l3 l3r z451 z451r _ hW) (fun s452 hr => ?_)
        obtain ⟨s452v, hW⟩ := hr
        obtain ⟨h454, hW⟩ := hW
        refine ir_inc (pc' := 43) rfl rfl rfl rfl rfl h454.1 h454.2 ?_
        refine ir_goto (pc' := 18) rfl rfl ?_
        refine ir_w [(0, (2, ((582 : Nat) : Int))), (1, (0, l1)), (2, (0, l2)), (3, (0, (l3 + 1)))] ⟨rfl, rfl, rfl, rfl, trivial⟩ ?_
        exact ih18 (l3 + 1) h454 s452 s452v hW.1 (Nat.lt_of_lt_of_le hW.2 (Nat.le_of_lt_succ hr18))
  unfold W_makeChain at hW
  refine ir_l (pc' := 1) rfl rfl rfl rfl rfl rfl ?_
  refine ir_k (pc' := 2) (v := (0, 1)) rfl rfl rfl (fun _ => rfl) ?_
  refine ir_vpi (pc' := 5) rfl rfl rfl rfl rfl rfl rfl hv (zR_i (Or.inr rfl)) (fun s455 s455e s455v => ?_)
  have hW := hW s455 s455e
  obtain ⟨h456, hW⟩ := hW
  refine ir_l (pc' := 6) rfl rfl rfl rfl rfl rfl ?_
  refine ir_l (pc' := 7) rfl rfl rfl rfl rfl rfl ?_
  refine ir_vgr (pc' := 10) (c := 598) rfl rfl rfl rfl rfl s455v ?_
  refine ir_l (pc' := 11) rfl rfl rfl rfl rfl rfl ?_
  refine ir_via (pc' := 12) rfl rfl vg_598 rfl (Nat.le_of_ble_eq_true rfl) s455v rfl h456 (fun r457 => ?_)
  refine ir_cVI (pc' := 15) rfl rfl rfl rfl rfl (Nat.le_of_ble_eq_true rfl) oo_X10_newPolynomial vg_582 (w_newPolynomial L ys (d + 7) s455 s455v (wga s455 598 l1) r457 _ hW) (fun z459 s458 hr => ?_)
  obtain ⟨s458v, z459r, hW⟩ := hr
  refine ir_s (pc' := 16) rfl rfl rfl rfl rfl rfl ?_
  refine ir_k (pc' := 17) (v := (0, 0)) rfl rfl rfl (fun _ => rfl) ?_
  refine ir_s (pc' := 18) rfl rfl rfl rfl rfl rfl ?_
  refine ir_w [(0, (2, ((582 : Nat) : Int))), (1, (0, l1)), (2, (0, z459)), (3, (0, 0))] ⟨rfl, rfl, rfl, rfl, trivial⟩ ?_
  obtain ⟨I9, r9, hI9, hB9⟩ := hW
  exact J18 l1 l1r z459 z459r I9 r9 hB9 _ 0 (zR_i (Or.inl rfl)) s458 s458v hI9 (Nat.lt_succ_self _)
def W_findRoots_443 (K443 : Int × im_S → Prop) (l10 : Int) (l11 : Int) (s : im_S) (Q : im_S → Prop) : Prop := (((wgf s 41) ≤ l11 → (Q s)) ∧ (¬ ((wgf s 41) ≤ l11) → ((0 ≤ l11 ∧ l11 < 90) ∧ (∀ s4, s4 = wpa s 610 l11 l10 → ((iR (l11 + 1)) ∧ (K443 ((l11 + 1), s4)))))))
def W_findRoots_437 (l7 : Int) (k0 : Int) (s : im_S) (Q : im_S → Prop) : Prop := (wloop (fun (K : Int × im_S → Prop) (a : Int × im_S) => W_findRoots_443 K k0 a.1 a.2 Q) (l7, s))
def W_findRoots_416 (l2 : Int) (l3 : Int) (l7 : Int) (l9 : Int) (s : im_S) (Q : im_S → Prop) : Prop := (W_giveBack l2 l3 s (fun s6 => ((l9 < l2 → (W_findRoots_437 l7 l9 s6 Q)) ∧ (¬ (l9 < l2) → (W_comeBack s6 (fun z10 s9 => (W_findRoots_437 l7 z10 s9 Q)))))))
def W_findRoots_358 (K358 : Int × Int × im_S → Prop) (l2 : Int) (l3 : Int) (l7 : Int) (l9 : Int) (l10 : Int) (s : im_S) (Q : im_S → Prop) : Prop := (((wgf s 41) ≤ l10 → (∀ s13, s13 = wpf s 32 0 → ((l9 < l2 → (W_findRoots_416 l2 l3 l7 l9 s13 Q)) ∧ (¬ (l9 < l2) → (W_stay l9 s13 (fun s15 => (W_findRoots_416 l2 l3 l7 l9 s15 Q))))))) ∧ (¬ ((wgf s 41) ≤ l10) → ((0 ≤ l10 ∧ l10 < 90) ∧ (∀ v220 : Int, v220 = (if ¬ ((wga s 609 l10) = 0) then l9 else (wga s 610 l10)) → ((iR (l10 + 1)) ∧ (K358 (v220, (l10 + 1), s)))))))
def W_findRoots_340 (K191 : Int × im_S → Prop) (l1 : Int) (l2 : Int) (l3 : Int) (l7 : Int) (l8 : Int) (s : im_S) (Q : im_S → Prop) : Prop := (K191 (l8, s))
def W_findRoots_191 (K191 : Int × im_S → Prop) (l1 : Int) (l2 : Int) (l3 : Int) (l7 : Int) (l8 : Int) (s : im_S) (Q : im_S → Prop) : Prop := ((l8 ≤ 0 → (W_restRoots l1 l7 s (fun s224 => (wloop (fun (K : Int × Int × im_S → Prop) (a : Int × Int × im_S) => W_findRoots_358 K l2 l3 l7 a.1 a.2.1 a.2.2 Q) ((-2), l7, s224))))) ∧ (¬ (l8 ≤ 0) → ((0 ≤ (l8 + (-1)) ∧ (l8 + (-1)) < 800) ∧ (W_changesAtHalf (wga s 615 (l8 + (-1))) (wga s 616 (l8 + (-1))) s (fun z231 s230 => (W_whole 1 s230 (fun z233 s232 => (W_plus (wga s 615 (l8 + (-1))) z233 s232 (fun z235 s234 => (W_changesAtHalf z235 (wga s 616 (l8 + (-1))) s234 (fun z237 s236 => ((iR (z231 - z237)) ∧ ((¬ ((z231 - z237) = 1) → (((z231 - z237) ≤ 1 → (W_findRoots_340 K191 l1 l2 l3 l7 (l8 + (-1)) s236 Q)) ∧ (¬ ((z231 - z237) ≤ 1) → (W_whole 2 s236 (fun z242 s241 => (W_by (wga s 615 (l8 + (-1))) z242 s241 (fun z244 s243 => (W_whole 1 s243 (fun z246 s245 => (W_plus z244 z246 s245 (fun z248 s247 => ((0 ≤ (l8 + (-1)) ∧ (l8 + (-1)) < 800) ∧ (∀ s250, s250 = wpa s247 615 (l8 + (-1)) z248 → ((iR ((wga s 616 (l8 + (-1))) + 1)) ∧ (0 ≤ (l8 + (-1)) ∧ (l8 + (-1)) < 800) ∧ (∀ s253, s253 = wpa s250 616 (l8 + (-1)) ((wga s 616 (l8 + (-1))) + 1) → ((0 ≤ ((l8 + (-1)) + 1) ∧ ((l8 + (-1)) + 1) < 800) ∧ (∀ s256, s256 = wpa s253 615 ((l8 + (-1)) + 1) z244 → ((iR ((wga s 616 (l8 + (-1))) + 1)) ∧ (0 ≤ ((l8 + (-1)) + 1) ∧ ((l8 + (-1)) + 1) < 800) ∧ (∀ s260, s260 = wpa s256 616 ((l8 + (-1)) + 1) ((wga s 616 (l8 + (-1))) + 1) → ((iR ((l8 + (-1)) + 2)) ∧ (W_findRoots_340 K191 l1 l2 l3 l7 ((l8 + (-1)) + 2) s260 Q))))))))))))))))))))) ∧ ((z231 - z237) = 1 → (W_addRoot l1 (wga s 615 (l8 + (-1))) (wga s 616 (l8 + (-1))) s236 (fun s262 => (W_findRoots_340 K191 l1 l2 l3 l7 (l8 + (-1)) s262 Q)))))))))))))))))
def W_findRoots_85 (K85 : Int × im_S → Prop) (l1 : Int) (l2 : Int) (l3 : Int) (l4 : Int) (l6 : Int) (l5 : Int) (s : im_S) (Q : im_S → Prop) : Prop := (W_powerOfTwo l5 s (fun z265 s264 => ((0 ≤ l4 ∧ l4 < 1200) ∧ (W_at l4 (wga s264 598 l4) s264 (fun z269 s268 => (W_by z265 z269 s268 (fun z271 s270 => ((0 ≤ l4 ∧ l4 < 1200) ∧ (W_at l4 (wga s270 598 l4) s270 (fun z275 s274 => (W_plus1 l6 z275 s274 (fun z277 s276 => (W_weigh z271 z277 s276 (fun z279 s278 => ((0 ≤ z279 → (W_whole 0 s278 (fun z283 s282 => ((0 ≤ (0 : Int) ∧ (0 : Int) < 800) ∧ (∀ s285, s285 = wpa s282 615 0 z283 → ((iR (-l5)) ∧ (0 ≤ (0 : Int) ∧ (0 : Int) < 800) ∧ (∀ s288, s288 = wpa s285 616 0 (-l5) → (W_whole (-1) s288 (fun z290 s289 => ((0 ≤ (1 : Int) ∧ (1 : Int) < 800) ∧ (∀ s292, s292 = wpa s289 615 1 z290 → ((iR (-l5)) ∧ (0 ≤ (1 : Int) ∧ (1 : Int) < 800) ∧ (∀ s295, s295 = wpa s292 616 1 (-l5) → (wloop (fun (K : Int × im_S → Prop) (a : Int × im_S) => W_findRoots_191 K l1 l2 l3 (wgf s278 41) a.1 a.2 Q) (2, s295))))))))))))))) ∧ (¬ (0 ≤ z279) → ((iR (l5 + 1)) ∧ (K85 ((l5 + 1), s278)))))))))))))))))))
def W_findRoots_37 (K37 : Int × Int × im_S → Prop) (l1 : Int) (l2 : Int) (l3 : Int) (l4 : Int) (l5 : Int) (l6 : Int) (l7 : Int) (s : im_S) (Q : im_S → Prop) : Prop := ((0 ≤ l4 ∧ l4 < 1200) ∧ (((wga s 598 l4) ≤ l7 → (wloop (fun (K : Int × im_S → Prop) (a : Int × im_S) => W_findRoots_85 K l1 l2 l3 l4 l6 a.1 a.2 Q) (l5, s))) ∧ (¬ ((wga s 598 l4) ≤ l7) → (W_at l4 l7 s (fun z301 s300 => (W_weigh z301 l6 s300 (fun z303 s302 => (∀ v504 : Int, v504 = (if z303 ≤ 0 then l6 else z301) → ((iR (l7 + 1)) ∧ (K37 (v504, (l7 + 1), s302)))))))))))
def W_findRoots (l1 : Int) (s : im_S) (Q : im_S → Prop) : Prop := ((0 ≤ l1 ∧ l1 < 200) ∧ (W_makeChain (wga s 602 l1) s (fun s511 => (W_whole 0 s511 (fun z514 s513 => (wloop (fun (K : Int × Int × im_S → Prop) (a : Int × Int × im_S) => W_findRoots_37 K l1 (wgf s 28) (wgf s 24) (wga s 602 l1) 1 a.1 a.2.1 a.2.2 Q) (z514, 0, s513)))))))
set_option maxRecDepth 16384 in
theorem w_findRoots (L : Nat) (ys : Nat → Int32) (d : Nat) (s : im_S) (hv : vI s) (l1 : Int) (l1r : iR l1) (Q : im_S → Prop) (hW : W_findRoots l1 s Q) : icV gG rm_P L ys (d + 10) 37 [(2, ((582 : Nat) : Int)), (0, l1)] s (fun s9 => vI s9 ∧ Q s9) := by
  refine ic_startM (M := rm_p_X10_findRoots) om_X10_findRoots (Nat.le_of_ble_eq_true rfl) ?_
  refine ir_w [(0, (2, ((582 : Nat) : Int))), (1, (0, l1))] ⟨rfl, rfl, trivial⟩ ?_
  have J443 : ∀ (l10 : Int) (l10r : iR l10) (I443 : Int × im_S → Prop) (r443 : Int × im_S → Nat) (hB443 : ∀ a : Int × im_S, I443 a → W_findRoots_443 (fun b => I443 b ∧ r443 b < r443 a) l10 a.1 a.2 Q), ∀ n443 : Nat, ∀ (l11 : Int) (l11r : iR l11) (s : im_S) (hv : vI s), I443 (l11, s) → r443 (l11, s) < n443 → ir gG rm_P L ys (d + 9) rm_p_X10_findRoots (443, [(0, (2, ((582 : Nat) : Int))), (10, (0, l10)), (11, (0, l11))], [], s) (fun r : im_Re => r.1 = none ∧ (vI r.2 ∧ Q r.2)) := by
    intro l10 l10r I443 r443 hB443 n443
    induction n443 with
    | zero => intro l11 l11r s hv hI hr; exact absurd hr (Nat.not_lt_zero _)
    | succ n443 ih443 =>
      intro l11 l11r s hv hI hr443
      obtain ⟨t443, ht443⟩ : ∃ t443 : Int × im_S, t443 = (l11, s) := ⟨_, rfl⟩
      rw [← ht443] at hr443
      have hW : W_findRoots_443 (fun b => I443 b ∧ r443 b < r443 t443) l10 l11 s Q := by have z := hB443 (l11, s) hI; rw [ht443]; exact z
      unfold W_findRoots_443 at hW
      refine ir_l (pc' := 445) rfl rfl rfl rfl rfl rfl ?_
      refine ir_l (pc' := 446) rfl rfl rfl rfl rfl rfl ?_
      refine ir_vgi (pc' := 449) rfl rfl rfl rfl rfl hv (fun r1 => ?_)
      refine ir_c_ge (pt := 467) (pc' := 452) rfl rfl rfl (fun c2 => ?_) (fun c2 => ?_)
      · have hW := hW.1 c2
        exact ir_vret rfl rfl ⟨rfl, hv, hW⟩
      · have hW := hW.2 c2
        obtain ⟨h3, hW⟩ := hW
        refine ir_l (pc' := 453) rfl rfl rfl rfl rfl rfl ?_
        refine ir_vgr (pc' := 456) (c := 610) rfl rfl rfl rfl rfl hv ?_
        refine ir_l (pc' := 458) rfl rfl rfl rfl rfl rfl ?_
        refine ir_l (pc' := 460) rfl rfl rfl rfl rfl rfl ?_
        refine ir_vis (pc' := 461) rfl rfl vg_610 rfl (Nat.le_of_ble_eq_true rfl) hv rfl h3 l10r (fun s4 s4e s4v => ?_)
        have hW := hW s4 s4e
        obtain ⟨h5, hW⟩ := hW
        refine ir_inc (pc' := 464) rfl rfl rfl rfl rfl h5.1 h5.2 ?_
        refine ir_goto (pc' := 443) rfl rfl ?_
        refine ir_w [(0, (2, ((582 : Nat) : Int))), (10, (0, l10)), (11, (0, (l11 + 1)))] ⟨rfl, rfl, rfl, trivial⟩ ?_
        exact ih443 (l11 + 1) h5 s4 s4v hW.1 (Nat.lt_of_lt_of_le hW.2 (Nat.le_of_lt_succ hr443))
  have J437 : ∀ (l7 : Int) (l7r : iR l7) (k0 : Int) (k0r : iR k0) (s : im_S) (hv : vI s), W_findRoots_437 l7 k0 s Q → ir gG rm_P L ys (d + 9) rm_p_X10_findRoots (437, [(0, (2, ((582 : Nat) : Int))), (7, (0, l7))], [(0, k0)], s) (fun r : im_Re => r.1 = none ∧ (vI r.2 ∧ Q r.2)) := by
    intro l7 l7r k0 k0r s hv hW
    unfold W_findRoots_437 at hW
    refine ir_s (pc' := 439) rfl rfl rfl rfl rfl rfl ?_
    refine ir_l (pc' := 441) rfl rfl rfl rfl rfl rfl ?_
    refine ir_s (pc' := 443) rfl rfl rfl rfl rfl rfl ?_
    refine ir_w [(0, (2, ((582 : Nat) : Int))), (10, (0, k0)), (11, (0, l7))] ⟨rfl, rfl, rfl, trivial⟩ ?_
    obtain ⟨I9, r9, hI9, hB9⟩ := hW
    exact J443 k0 k0r I9 r9 hB9 _ l7 l7r s hv hI9 (Nat.lt_succ_self _)
  have J416 : ∀ (l2 : Int) (l2r : iR l2) (l3 : Int) (l3r : iR l3) (l7 : Int) (l7r : iR l7) (l9 : Int) (l9r : iR l9) (s : im_S) (hv : vI s), W_findRoots_416 l2 l3 l7 l9 s Q → ir gG rm_P L ys (d + 9) rm_p_X10_findRoots (416, [(0, (2, ((582 : Nat) : Int))), (2, (0, l2)), (3, (0, l3)), (7, (0, l7)), (9, (0, l9))], [], s) (fun r : im_Re => r.1 = none ∧ (vI r.2 ∧ Q r.2)) := by
    intro l2 l2r l3 l3r l7 l7r l9 l9r s hv hW
    unfold W_findRoots_416 at hW
    refine ir_l (pc' := 417) rfl rfl rfl rfl rfl rfl ?_
    refine ir_l (pc' := 418) rfl rfl rfl rfl rfl rfl ?_
    refine ir_l (pc' := 419) rfl rfl rfl rfl rfl rfl ?_
    refine ir_cVV (pc' := 422) rfl rfl rfl rfl rfl (Nat.le_of_ble_eq_true rfl) oo_X10_giveBack vg_582 (w_giveBack L ys (d + 8) s hv l2 l2r l3 l3r _ hW) (fun s6 hr => ?_)
    obtain ⟨s6v, hW⟩ := hr
    refine ir_l (pc' := 424) rfl rfl rfl rfl rfl rfl ?_
    refine ir_l (pc' := 425) rfl rfl rfl rfl rfl rfl ?_
    refine ir_c_lt (pt := 435) (pc' := 428) rfl rfl rfl (fun c8 => ?_) (fun c8 => ?_)
    · have hW := hW.1 c8
      refine ir_l (pc' := 437) rfl rfl rfl rfl rfl rfl ?_
      refine ir_w [(0, (2, ((582 : Nat) : Int))), (7, (0, l7))] ⟨rfl, rfl, trivial⟩ ?_
      exact J437 l7 l7r l9 l9r s6 s6v hW
    · have hW := hW.2 c8
      refine ir_l (pc' := 429) rfl rfl rfl rfl rfl rfl ?_
      refine ir_cVI (pc' := 432) rfl rfl rfl rfl rfl (Nat.le_of_ble_eq_true rfl) oo_X10_comeBack vg_582 (w_comeBack L ys (d + 7) s6 s6v  _ hW) (fun z10 s9 hr => ?_)
      obtain ⟨s9v, z10r, hW⟩ := hr
      refine ir_goto (pc' := 437) rfl rfl ?_
      refine ir_w [(0, (2, ((582 : Nat) : Int))), (7, (0, l7))] ⟨rfl, rfl, trivial⟩ ?_
      exact J437 l7 l7r z10 z10r s9 s9v hW
  have J358 : ∀ (l2 : Int) (l2r : iR l2) (l3 : Int) (l3r : iR l3) (l7 : Int) (l7r : iR l7) (I358 : Int × Int × im_S → Prop) (r358 : Int × Int × im_S → Nat) (hB358 : ∀ a : Int × Int × im_S, I358 a → W_findRoots_358 (fun b => I358 b ∧ r358 b < r358 a) l2 l3 l7 a.1 a.2.1 a.2.2 Q), ∀ n358 : Nat, ∀ (l9 : Int) (l9r : iR l9) (l10 : Int) (l10r : iR l10) (s : im_S) (hv : vI s), I358 (l9, l10, s) → r358 (l9, l10, s) < n358 → ir gG rm_P L ys (d + 9) rm_p_X10_findRoots (358, [(0, (2, ((582 : Nat) : Int))), (2, (0, l2)), (3, (0, l3)), (7, (0, l7)), (9, (0, l9)), (10, (0, l10))], [], s) (fun r : im_Re => r.1 = none ∧ (vI r.2 ∧ Q r.2)) := by
    intro l2 l2r l3 l3r l7 l7r I358 r358 hB358 n358
    induction n358 with
    | zero => intro l9 l9r l10 l10r s hv hI hr; exact absurd hr (Nat.not_lt_zero _)
    | succ n358 ih358 =>
      intro l9 l9r l10 l10r s hv hI hr358
      obtain ⟨t358, ht358⟩ : ∃ t358 : Int × Int × im_S, t358 = (l9, l10, s) := ⟨_, rfl⟩
      rw [← ht358] at hr358
      have hW : W_findRoots_358 (fun b => I358 b ∧ r358 b < r358 t358) l2 l3 l7 l9 l10 s Q := by have z := hB358 (l9, l10, s) hI; rw [ht358]; exact z
      unfold W_findRoots_358 at hW
      refine ir_l (pc' := 360) rfl rfl rfl rfl rfl rfl ?_
      refine ir_l (pc' := 361) rfl rfl rfl rfl rfl rfl ?_
      refine ir_vgi (pc' := 364) rfl rfl rfl rfl rfl hv (fun r11 => ?_)
      refine ir_c_ge (pt := 399) (pc' := 367) rfl rfl rfl (fun c12 => ?_) (fun c12 => ?_)
      · have hW := hW.1 c12
        refine ir_l (pc' := 400) rfl rfl rfl rfl rfl rfl ?_
        refine ir_k (pc' := 401) (v := (0, 0)) rfl rfl rfl (fun _ => rfl) ?_
        refine ir_vpi (pc' := 404) rfl rfl rfl rfl rfl rfl rfl hv (zR_i (Or.inl rfl)) (fun s13 s13e s13v => ?_)
        have hW := hW s13 s13e
        refine ir_l (pc' := 406) rfl rfl rfl rfl rfl rfl ?_
        refine ir_l (pc' := 407) rfl rfl rfl rfl rfl rfl ?_
        refine ir_c_lt (pt := 416) (pc' := 410) rfl rfl rfl (fun c14 => ?_) (fun c14 => ?_)
        · have hW := hW.1 c14
          refine ir_w [(0, (2, ((582 : Nat) : Int))), (2, (0, l2)), (3, (0, l3)), (7, (0, l7)), (9, (0, l9))] ⟨rfl, rfl, rfl, rfl, rfl, trivial⟩ ?_
          exact J416 l2 l2r l3 l3r l7 l7r l9 l9r s13 s13v hW
        · have hW := hW.2 c14
          refine ir_l (pc' := 411) rfl rfl rfl rfl rfl rfl ?_
          refine ir_l (pc' := 413) rfl rfl rfl rfl rfl rfl ?_
          refine ir_cVV (pc' := 416) rfl rfl rfl rfl rfl (Nat.le_of_ble_eq_true rfl) oo_X10_stay vg_582 (w_stay L ys (d + 7) s13 s13v l9 l9r _ hW) (fun s15 hr => ?_)
          obtain ⟨s15v, hW⟩ := hr
          refine ir_w [(0, (2, ((582 : Nat) : Int))), (2, (0, l2)), (3, (0, l3)), (7, (0, l7)), (9, (0, l9))] ⟨rfl, rfl, rfl, rfl, rfl, trivial⟩ ?_
          exact J416 l2 l2r l3 l3r l7 l7r l9 l9r s15 s15v hW
      · have hW := hW.2 c12
        obtain ⟨h17, hW⟩ := hW
        refine ir_l (pc' := 368) rfl rfl rfl rfl rfl rfl ?_
        refine ir_vgr (pc' := 371) (c := 609) rfl rfl rfl rfl rfl hv ?_
        refine ir_l (pc' := 373) rfl rfl rfl rfl rfl rfl ?_
        refine ir_vla (pc' := 374) rfl rfl vg_609 rfl (Nat.le_of_ble_eq_true rfl) hv rfl h17 (fun r18 => ?_)
        refine ir_k (pc' := 375) (v := (1, 0)) rfl rfl rfl (fun _ => rfl) ?_
        refine ir_lcmp (pc' := 376) rfl rfl r18.1 r18.2 (⟨by decide, by decide⟩ : lR 0).1 (⟨by decide, by decide⟩ : lR 0).2 (fun z19 z19c => ?_)
        have J221 : ∀ v220 : Int, iR v220 → (((iR (l10 + 1)) ∧ ((fun b => I358 b ∧ r358 b < r358 t358) (v220, (l10 + 1), s)))) → ir gG rm_P L ys (d + 9) rm_p_X10_findRoots (391, [(0, (2, ((582 : Nat) : Int))), (2, (0, l2)), (3, (0, l3)), (7, (0, l7)), (10, (0, l10))], [(0, v220)], s) (fun r : im_Re => r.1 = none ∧ (vI r.2 ∧ Q r.2)) := by
          intro v220 v220r hW
          obtain ⟨h222, hW⟩ := hW
          refine ir_s (pc' := 393) rfl rfl rfl rfl rfl rfl ?_
          refine ir_inc (pc' := 396) rfl rfl rfl rfl rfl h222.1 h222.2 ?_
          refine ir_goto (pc' := 358) rfl rfl ?_
          refine ir_w [(0, (2, ((582 : Nat) : Int))), (2, (0, l2)), (3, (0, l3)), (7, (0, l7)), (9, (0, v220)), (10, (0, (l10 + 1)))] ⟨rfl, rfl, rfl, rfl, rfl, rfl, trivial⟩ ?_
          exact ih358 v220 v220r (l10 + 1) h222 s hv hW.1 (Nat.lt_of_lt_of_le hW.2 (Nat.le_of_lt_succ hr358))
        refine ir_z_ne (pt := 389) (pc' := 379) rfl rfl rfl (fun c20 => ?_) (fun c20 => ?_)
        · have c20 : ¬ ((wga s 609 l10) = 0) := by omega
          refine ir_l (pc' := 391) rfl rfl rfl rfl rfl rfl ?_
          refine ir_w [(0, (2, ((582 : Nat) : Int))), (2, (0, l2)), (3, (0, l3)), (7, (0, l7)), (10, (0, l10))] ⟨rfl, rfl, rfl, rfl, rfl, trivial⟩ ?_
          exact J221 l9 l9r (hW _ (by rw [if_pos c20]))
        · have c20 : (wga s 609 l10) = 0 := by omega
          refine ir_l (pc' := 380) rfl rfl rfl rfl rfl rfl ?_
          refine ir_vgr (pc' := 383) (c := 610) rfl rfl rfl rfl rfl hv ?_
          refine ir_l (pc' := 385) rfl rfl rfl rfl rfl rfl ?_
          refine ir_via (pc' := 386) rfl rfl vg_610 rfl (Nat.le_of_ble_eq_true rfl) hv rfl h17 (fun r21 => ?_)
          refine ir_goto (pc' := 391) rfl rfl ?_
          refine ir_w [(0, (2, ((582 : Nat) : Int))), (2, (0, l2)), (3, (0, l3)), (7, (0, l7)), (10, (0, l10))] ⟨rfl, rfl, rfl, rfl, rfl, trivial⟩ ?_
          exact J221 (wga s 610 l10) r21 (hW _ (by rw [if_neg (by omega)]))
  have J191 : ∀ (l1 : Int) (l1r : iR l1) (l2 : Int) (l2r : iR l2) (l3 : Int) (l3r : iR l3) (l7 : Int) (l7r : iR l7) (I191 : Int × im_S → Prop) (r191 : Int × im_S → Nat) (hB191 : ∀ a : Int × im_S, I191 a → W_findRoots_191 (fun b => I191 b ∧ r191 b < r191 a) l1 l2 l3 l7 a.1 a.2 Q), ∀ n191 : Nat, ∀ (l8 : Int) (l8r : iR l8) (s : im_S) (hv : vI s), I191 (l8, s) → r191 (l8, s) < n191 → ir gG rm_P L ys (d + 9) rm_p_X10_findRoots (191, [(0, (2, ((582 : Nat) : Int))), (1, (0, l1)), (2, (0, l2)), (3, (0, l3)), (7, (0, l7)), (8, (0, l8))], [], s) (fun r : im_Re => r.1 = none ∧ (vI r.2 ∧ Q r.2)) := by
    intro l1 l1r l2 l2r l3 l3r l7 l7r I191 r191 hB191 n191
    induction n191 with
    | zero => intro l8 l8r s hv hI hr; exact absurd hr (Nat.not_lt_zero _)
    | succ n191 ih191 =>
      intro l8 l8r s hv hI hr191
      obtain ⟨t191, ht191⟩ : ∃ t191 : Int × im_S, t191 = (l8, s) := ⟨_, rfl⟩
      rw [← ht191] at hr191
      have hW : W_findRoots_191 (fun b => I191 b ∧ r191 b < r191 t191) l1 l2 l3 l7 l8 s Q := by have z := hB191 (l8, s) hI; rw [ht191]; exact z
      have J340 : ∀ (l8 : Int) (l8r : iR l8) (s : im_S) (hv : vI s), W_findRoots_340 (fun b => I191 b ∧ r191 b < r191 t191) l1 l2 l3 l7 l8 s Q → ir gG rm_P L ys (d + 9) rm_p_X10_findRoots (340, [(0, (2, ((582 : Nat) : Int))), (1, (0, l1)), (2, (0, l2)), (3, (0, l3)), (7, (0, l7)), (8, (0, l8))], [], s) (fun r : im_Re => r.1 = none ∧ (vI r.2 ∧ Q r.2)) := by
        intro l8 l8r s hv hW
        unfold W_findRoots_340 at hW
        refine ir_goto (pc' := 191) rfl rfl ?_
        refine ir_w [(0, (2, ((582 : Nat) : Int))), (1, (0, l1)), (2, (0, l2)), (3, (0, l3)), (7, (0, l7)), (8, (0, l8))] ⟨rfl, rfl, rfl, rfl, rfl, rfl, trivial⟩ ?_
        exact ih191 l8 l8r s hv hW.1 (Nat.lt_of_lt_of_le hW.2 (Nat.le_of_lt_succ hr191))
      unfold W_findRoots_191 at hW
      refine ir_l (pc' := 193) rfl rfl rfl rfl rfl rfl ?_
      refine ir_z_le (pt := 343) (pc' := 196) rfl rfl rfl (fun c223 => ?_) (fun c223 => ?_)
      · have hW := hW.1 c223
        refine ir_l (pc' := 344) rfl rfl rfl rfl rfl rfl ?_
        refine ir_l (pc' := 345) rfl rfl rfl rfl rfl rfl ?_
        refine ir_l (pc' := 347) rfl rfl rfl rfl rfl rfl ?_
        refine ir_cVV (pc' := 350) rfl rfl rfl rfl rfl (Nat.le_of_ble_eq_true rfl) oo_X10_restRoots vg_582 (w_restRoots L ys d s hv l1 l1r l7 l7r _ hW) (fun s224 hr => ?_)
        obtain ⟨s224v, hW⟩ := hr
        refine ir_k (pc' := 352) (v := (0, (-2))) rfl rfl rfl (fun _ => rfl) ?_
        refine ir_s (pc' := 354) rfl rfl rfl rfl rfl rfl ?_
        refine ir_l (pc' := 356) rfl rfl rfl rfl rfl rfl ?_
        refine ir_s (pc' := 358) rfl rfl rfl rfl rfl rfl ?_
        refine ir_w [(0, (2, ((582 : Nat) : Int))), (2, (0, l2)), (3, (0, l3)), (7, (0, l7)), (9, (0, (-2))), (10, (0, l7))] ⟨rfl, rfl, rfl, rfl, rfl, rfl, trivial⟩ ?_
        obtain ⟨I9, r9, hI9, hB9⟩ := hW
        exact J358 l2 l2r l3 l3r l7 l7r I9 r9 hB9 _ (-2) (⟨by decide, by decide⟩ : iR (-2)) l7 l7r s224 s224v hI9 (Nat.lt_succ_self _)
      · have hW := hW.2 c223
        obtain ⟨h227, hW⟩ := hW
        have h226 : iR (l8 + (-1)) := ⟨by omega, by omega⟩
        refine ir_inc (pc' := 199) rfl rfl rfl rfl rfl h226.1 h226.2 ?_
        refine ir_l (pc' := 200) rfl rfl rfl rfl rfl rfl ?_
        refine ir_vgr (pc' := 203) (c := 615) rfl rfl rfl rfl rfl hv ?_
        refine ir_l (pc' := 205) rfl rfl rfl rfl rfl rfl ?_
        refine ir_via (pc' := 206) rfl rfl vg_615 rfl (Nat.le_of_ble_eq_true rfl) hv rfl h227 (fun r228 => ?_)
        refine ir_s (pc' := 208) rfl rfl rfl rfl rfl rfl ?_
        refine ir_l (pc' := 209) rfl rfl rfl rfl rfl rfl ?_
        refine ir_vgr (pc' := 212) (c := 616) rfl rfl rfl rfl rfl hv ?_
        refine ir_l (pc' := 214) rfl rfl rfl rfl rfl rfl ?_
        refine ir_via (pc' := 215) rfl rfl vg_616 rfl (Nat.le_of_ble_eq_true rfl) hv rfl h227 (fun r229 => ?_)
        refine ir_s (pc' := 217) rfl rfl rfl rfl rfl rfl ?_
        refine ir_l (pc' := 218) rfl rfl rfl rfl rfl rfl ?_
        refine ir_l (pc' := 220) rfl rfl rfl rfl rfl rfl ?_
        refine ir_l (pc' := 222) rfl rfl rfl rfl rfl rfl ?_
        refine ir_cVI (pc' := 225) rfl rfl rfl rfl rfl (Nat.le_of_ble_eq_true rfl) oo_X10_changesAtHalf vg_582 (w_changesAtHalf L ys (d + 2) s hv (wga s 615 (l8 + (-1))) r228 (wga s 616 (l8 + (-1))) r229 _ hW) (fun z231 s230 hr => ?_)
        obtain ⟨s230v, z231r, hW⟩ := hr
        refine ir_l (pc' := 226) rfl rfl rfl rfl rfl rfl ?_
        refine ir_l (pc' := 227) rfl rfl rfl rfl rfl rfl ?_
        refine ir_l (pc' := 229) rfl rfl rfl rfl rfl rfl ?_
        refine ir_l (pc' := 230) rfl rfl rfl rfl rfl rfl ?_
        refine ir_k (pc' := 231) (v := (1, 1)) rfl rfl rfl (fun _ => rfl) ?_
        refine ir_cVI (pc' := 234) rfl rfl rfl rfl rfl (Nat.le_of_ble_eq_true rfl) oo_X10_whole vg_582 (w_whole L ys (d + 8) s230 s230v 1 (⟨by decide, by decide⟩ : lR 1) _ hW) (fun z233 s232 hr => ?_)
        obtain ⟨s232v, z233r, hW⟩ := hr
        refine ir_cVI (pc' := 237) rfl rfl rfl rfl rfl (Nat.le_of_ble_eq_true rfl) oo_X10_plus vg_582 (w_plus L ys (d + 5) s232 s232v (wga s 615 (l8 + (-1))) r228 z233 z233r _ hW) (fun z235 s234 hr => ?_)
        obtain ⟨s234v, z235r, hW⟩ := hr
        refine ir_l (pc' := 239) rfl rfl rfl rfl rfl rfl ?_
        refine ir_cVI (pc' := 242) rfl rfl rfl rfl rfl (Nat.le_of_ble_eq_true rfl) oo_X10_changesAtHalf vg_582 (w_changesAtHalf L ys (d + 2) s234 s234v z235 z235r (wga s 616 (l8 + (-1))) r229 _ hW) (fun z237 s236 hr => ?_)
        obtain ⟨s236v, z237r, hW⟩ := hr
        obtain ⟨h238, hW⟩ := hW
        refine ir_sub (pc' := 243) rfl rfl h238.1 h238.2 ?_
        refine ir_s (pc' := 245) rfl rfl rfl rfl rfl rfl ?_
        refine ir_l (pc' := 247) rfl rfl rfl rfl rfl rfl ?_
        refine ir_k (pc' := 248) (v := (0, 1)) rfl rfl rfl (fun _ => rfl) ?_
        refine ir_c_ne (pt := 263) (pc' := 251) rfl rfl rfl (fun c239 => ?_) (fun c239 => ?_)
        · have hW := hW.1 c239
          refine ir_l (pc' := 265) rfl rfl rfl rfl rfl rfl ?_
          refine ir_k (pc' := 266) (v := (0, 1)) rfl rfl rfl (fun _ => rfl) ?_
          refine ir_c_le (pt := 340) (pc' := 269) rfl rfl rfl (fun c240 => ?_) (fun c240 => ?_)
          · have hW := hW.1 c240
            refine ir_w [(0, (2, ((582 : Nat) : Int))), (1, (0, l1)), (2, (0, l2)), (3, (0, l3)), (7, (0, l7)), (8, (0, (l8 + (-1))))] ⟨rfl, rfl, rfl, rfl, rfl, rfl, trivial⟩ ?_
            exact J340 (l8 + (-1)) h226 s236 s236v hW
          · have hW := hW.2 c240
            refine ir_l (pc' := 270) rfl rfl rfl rfl rfl rfl ?_
            refine ir_l (pc' := 272) rfl rfl rfl rfl rfl rfl ?_
            refine ir_l (pc' := 273) rfl rfl rfl rfl rfl rfl ?_
            refine ir_k (pc' := 276) (v := (1, 2)) rfl rfl rfl (fun _ => rfl) ?_
            refine ir_cVI (pc' := 279) rfl rfl rfl rfl rfl (Nat.le_of_ble_eq_true rfl) oo_X10_whole vg_582 (w_whole L ys (d + 8) s236 s236v 2 (⟨by decide, by decide⟩ : lR 2) _ hW) (fun z242 s241 hr => ?_)
            obtain ⟨s241v, z242r, hW⟩ := hr
            refine ir_cVI (pc' := 282) rfl rfl rfl rfl rfl (Nat.le_of_ble_eq_true rfl) oo_X10_by vg_582 (w_by L ys (d + 7) s241 s241v (wga s 615 (l8 + (-1))) r228 z242 z242r _ hW) (fun z244 s243 hr => ?_)
            obtain ⟨s243v, z244r, hW⟩ := hr
            refine ir_s (pc' := 284) rfl rfl rfl rfl rfl rfl ?_
            refine ir_l (pc' := 285) rfl rfl rfl rfl rfl rfl ?_
            refine ir_vgr (pc' := 288) (c := 615) rfl rfl rfl rfl rfl s243v ?_
            refine ir_l (pc' := 290) rfl rfl rfl rfl rfl rfl ?_
            refine ir_l (pc' := 291) rfl rfl rfl rfl rfl rfl ?_
            refine ir_l (pc' := 293) rfl rfl rfl rfl rfl rfl ?_
            refine ir_l (pc' := 294) rfl rfl rfl rfl rfl rfl ?_
            refine ir_k (pc' := 295) (v := (1, 1)) rfl rfl rfl (fun _ => rfl) ?_
            refine ir_cVI (pc' := 298) rfl rfl rfl rfl rfl (Nat.le_of_ble_eq_true rfl) oo_X10_whole vg_582 (w_whole L ys (d + 8) s243 s243v 1 (⟨by decide, by decide⟩ : lR 1) _ hW) (fun z246 s245 hr => ?_)
            obtain ⟨s245v, z246r, hW⟩ := hr
            refine ir_cVI (pc' := 301) rfl rfl rfl rfl rfl (Nat.le_of_ble_eq_true rfl) oo_X10_plus vg_582 (w_plus L ys (d + 5) s245 s245v z244 z244r z246 z246r _ hW) (fun z248 s247 hr => ?_)
            obtain ⟨s247v, z248r, hW⟩ := hr
            obtain ⟨h249, hW⟩ := hW
            refine ir_vis (pc' := 302) rfl rfl vg_615 rfl (Nat.le_of_ble_eq_true rfl) s247v rfl h249 z248r (fun s250 s250e s250v => ?_)
            have hW := hW s250 s250e
            obtain ⟨h251, h252, hW⟩ := hW
            refine ir_l (pc' := 303) rfl rfl rfl rfl rfl rfl ?_
            refine ir_vgr (pc' := 306) (c := 616) rfl rfl rfl rfl rfl s250v ?_
            refine ir_l (pc' := 308) rfl rfl rfl rfl rfl rfl ?_
            refine ir_l (pc' := 310) rfl rfl rfl rfl rfl rfl ?_
            refine ir_k (pc' := 311) (v := (0, 1)) rfl rfl rfl (fun _ => rfl) ?_
            refine ir_add (pc' := 312) rfl rfl h251.1 h251.2 ?_
            refine ir_vis (pc' := 313) rfl rfl vg_616 rfl (Nat.le_of_ble_eq_true rfl) s250v rfl h252 h251 (fun s253 s253e s253v => ?_)
            have hW := hW s253 s253e
            obtain ⟨h255, hW⟩ := hW
            have h254 : iR ((l8 + (-1)) + 1) := ⟨by omega, by omega⟩
            refine ir_l (pc' := 314) rfl rfl rfl rfl rfl rfl ?_
            refine ir_vgr (pc' := 317) (c := 615) rfl rfl rfl rfl rfl s253v ?_
            refine ir_l (pc' := 319) rfl rfl rfl rfl rfl rfl ?_
            refine ir_k (pc' := 320) (v := (0, 1)) rfl rfl rfl (fun _ => rfl) ?_
            refine ir_add (pc' := 321) rfl rfl h254.1 h254.2 ?_
            refine ir_l (pc' := 323) rfl rfl rfl rfl rfl rfl ?_
            refine ir_vis (pc' := 324) rfl rfl vg_615 rfl (Nat.le_of_ble_eq_true rfl) s253v rfl h255 z244r (fun s256 s256e s256v => ?_)
            have hW := hW s256 s256e
            obtain ⟨h258, h259, hW⟩ := hW
            have h257 : iR ((l8 + (-1)) + 1) := ⟨by omega, by omega⟩
            refine ir_l (pc' := 325) rfl rfl rfl rfl rfl rfl ?_
            refine ir_vgr (pc' := 328) (c := 616) rfl rfl rfl rfl rfl s256v ?_
            refine ir_l (pc' := 330) rfl rfl rfl rfl rfl rfl ?_
            refine ir_k (pc' := 331) (v := (0, 1)) rfl rfl rfl (fun _ => rfl) ?_
            refine ir_add (pc' := 332) rfl rfl h257.1 h257.2 ?_
            refine ir_l (pc' := 334) rfl rfl rfl rfl rfl rfl ?_
            refine ir_k (pc' := 335) (v := (0, 1)) rfl rfl rfl (fun _ => rfl) ?_
            refine ir_add (pc' := 336) rfl rfl h258.1 h258.2 ?_
            refine ir_vis (pc' := 337) rfl rfl vg_616 rfl (Nat.le_of_ble_eq_true rfl) s256v rfl h259 h258 (fun s260 s260e s260v => ?_)
            have hW := hW s260 s260e
            obtain ⟨h261, hW⟩ := hW
            refine ir_inc (pc' := 340) rfl rfl rfl rfl rfl h261.1 h261.2 ?_
            refine ir_w [(0, (2, ((582 : Nat) : Int))), (1, (0, l1)), (2, (0, l2)), (3, (0, l3)), (7, (0, l7)), (8, (0, ((l8 + (-1)) + 2)))] ⟨rfl, rfl, rfl, rfl, rfl, rfl, trivial⟩ ?_
            exact J340 ((l8 + (-1)) + 2) h261 s260 s260v hW
        · have hW := hW.2 c239
          refine ir_l (pc' := 252) rfl rfl rfl rfl rfl rfl ?_
          refine ir_l (pc' := 253) rfl rfl rfl rfl rfl rfl ?_
          refine ir_l (pc' := 255) rfl rfl rfl rfl rfl rfl ?_
          refine ir_l (pc' := 257) rfl rfl rfl rfl rfl rfl ?_
          refine ir_cVV (pc' := 260) rfl rfl rfl rfl rfl (Nat.le_of_ble_eq_true rfl) oo_X10_addRoot vg_582 (w_addRoot L ys (d + 1) s236 s236v l1 l1r (wga s 615 (l8 + (-1))) r228 (wga s 616 (l8 + (-1))) r229 _ hW) (fun s262 hr => ?_)
          obtain ⟨s262v, hW⟩ := hr
          refine ir_goto (pc' := 340) rfl rfl ?_
          refine ir_w [(0, (2, ((582 : Nat) : Int))), (1, (0, l1)), (2, (0, l2)), (3, (0, l3)), (7, (0, l7)), (8, (0, (l8 + (-1))))] ⟨rfl, rfl, rfl, rfl, rfl, rfl, trivial⟩ ?_
          exact J340 (l8 + (-1)) h226 s262 s262v hW
  have J85 : ∀ (l1 : Int) (l1r : iR l1) (l2 : Int) (l2r : iR l2) (l3 : Int) (l3r : iR l3) (l4 : Int) (l4r : iR l4) (l6 : Int) (l6r : iR l6) (I85 : Int × im_S → Prop) (r85 : Int × im_S → Nat) (hB85 : ∀ a : Int × im_S, I85 a → W_findRoots_85 (fun b => I85 b ∧ r85 b < r85 a) l1 l2 l3 l4 l6 a.1 a.2 Q), ∀ n85 : Nat, ∀ (l5 : Int) (l5r : iR l5) (s : im_S) (hv : vI s), I85 (l5, s) → r85 (l5, s) < n85 → ir gG rm_P L ys (d + 9) rm_p_X10_findRoots (85, [(0, (2, ((582 : Nat) : Int))), (1, (0, l1)), (2, (0, l2)), (3, (0, l3)), (4, (0, l4)), (5, (0, l5)), (6, (0, l6))], [], s) (fun r : im_Re => r.1 = none ∧ (vI r.2 ∧ Q r.2)) := by
    intro l1 l1r l2 l2r l3 l3r l4 l4r l6 l6r I85 r85 hB85 n85
    induction n85 with
    | zero => intro l5 l5r s hv hI hr; exact absurd hr (Nat.not_lt_zero _)
    | succ n85 ih85 =>
      intro l5 l5r s hv hI hr85
      obtain ⟨t85, ht85⟩ : ∃ t85 : Int × im_S, t85 = (l5, s) := ⟨_, rfl⟩
      rw [← ht85] at hr85
      have hW : W_findRoots_85 (fun b => I85 b ∧ r85 b < r85 t85) l1 l2 l3 l4 l6 l5 s Q := by have z := hB85 (l5, s) hI; rw [ht85]; exact z
      unfold W_findRoots_85 at hW
      refine ir_l (pc' := 86) rfl rfl rfl rfl rfl rfl ?_
      refine ir_l (pc' := 87) rfl rfl rfl rfl rfl rfl ?_
      refine ir_l (pc' := 88) rfl rfl rfl rfl rfl rfl ?_
      refine ir_l (pc' := 90) rfl rfl rfl rfl rfl rfl ?_
      refine ir_cVI (pc' := 93) rfl rfl rfl rfl rfl (Nat.le_of_ble_eq_true rfl) oo_X10_powerOfTwo vg_582 (w_powerOfTwo L ys (d + 5) s hv l5 l5r _ hW) (fun z265 s264 hr => ?_)
      obtain ⟨s264v, z265r, hW⟩ := hr
      obtain ⟨h266, hW⟩ := hW
      refine ir_l (pc' := 94) rfl rfl rfl rfl rfl rfl ?_
      refine ir_l (pc' := 96) rfl rfl rfl rfl rfl rfl ?_
      refine ir_l (pc' := 97) rfl rfl rfl rfl rfl rfl ?_
      refine ir_vgr (pc' := 100) (c := 598) rfl rfl rfl rfl rfl s264v ?_
      refine ir_l (pc' := 102) rfl rfl rfl rfl rfl rfl ?_
      refine ir_via (pc' := 103) rfl rfl vg_598 rfl (Nat.le_of_ble_eq_true rfl) s264v rfl h266 (fun r267 => ?_)
      refine ir_cVI (pc' := 106) rfl rfl rfl rfl rfl (Nat.le_of_ble_eq_true rfl) oo_X10_at vg_582 (w_at L ys (d + 8) s264 s264v l4 l4r (wga s264 598 l4) r267 _ hW) (fun z269 s268 hr => ?_)
      obtain ⟨s268v, z269r, hW⟩ := hr
      refine ir_cVI (pc' := 109) rfl rfl rfl rfl rfl (Nat.le_of_ble_eq_true rfl) oo_X10_by vg_582 (w_by L ys (d + 7) s268 s268v z265 z265r z269 z269r _ hW) (fun z271 s270 hr => ?_)
      obtain ⟨s270v, z271r, hW⟩ := hr
      obtain ⟨h272, hW⟩ := hW
      refine ir_l (pc' := 110) rfl rfl rfl rfl rfl rfl ?_
      refine ir_l (pc' := 112) rfl rfl rfl rfl rfl rfl ?_
      refine ir_l (pc' := 113) rfl rfl rfl rfl rfl rfl ?_
      refine ir_l (pc' := 115) rfl rfl rfl rfl rfl rfl ?_
      refine ir_l (pc' := 116) rfl rfl rfl rfl rfl rfl ?_
      refine ir_vgr (pc' := 119) (c := 598) rfl rfl rfl rfl rfl s270v ?_
      refine ir_l (pc' := 121) rfl rfl rfl rfl rfl rfl ?_
      refine ir_via (pc' := 122) rfl rfl vg_598 rfl (Nat.le_of_ble_eq_true rfl) s270v rfl h272 (fun r273 => ?_)
      refine ir_cVI (pc' := 125) rfl rfl rfl rfl rfl (Nat.le_of_ble_eq_true rfl) oo_X10_at vg_582 (w_at L ys (d + 8) s270 s270v l4 l4r (wga s270 598 l4) r273 _ hW) (fun z275 s274 hr => ?_)
      obtain ⟨s274v, z275r, hW⟩ := hr
      refine ir_cVI (pc' := 128) rfl rfl rfl rfl rfl (Nat.le_of_ble_eq_true rfl) oo_X10_plus1 vg_582 (w_plus1 L ys (d + 4) s274 s274v l6 l6r z275 z275r _ hW) (fun z277 s276 hr => ?_)
      obtain ⟨s276v, z277r, hW⟩ := hr
      refine ir_cVI (pc' := 131) rfl rfl rfl rfl rfl (Nat.le_of_ble_eq_true rfl) oo_X10_weigh vg_582 (w_weigh L ys (d + 7) s276 s276v z271 z271r z277 z277r _ hW) (fun z279 s278 hr => ?_)
      obtain ⟨s278v, z279r, hW⟩ := hr
      refine ir_z_ge (pt := 140) (pc' := 134) rfl rfl rfl (fun c280 => ?_) (fun c280 => ?_)
      · have hW := hW.1 c280
        refine ir_l (pc' := 141) rfl rfl rfl rfl rfl rfl ?_
        refine ir_vgi (pc' := 144) rfl rfl rfl rfl rfl s278v (fun r281 => ?_)
        refine ir_s (pc' := 146) rfl rfl rfl rfl rfl rfl ?_
        refine ir_k (pc' := 147) (v := (0, 2)) rfl rfl rfl (fun _ => rfl) ?_
        refine ir_s (pc' := 149) rfl rfl rfl rfl rfl rfl ?_
        refine ir_l (pc' := 150) rfl rfl rfl rfl rfl rfl ?_
        refine ir_vgr (pc' := 153) (c := 615) rfl rfl rfl rfl rfl s278v ?_
        refine ir_k (pc' := 154) (v := (0, 0)) rfl rfl rfl (fun _ => rfl) ?_
        refine ir_l (pc' := 155) rfl rfl rfl rfl rfl rfl ?_
        refine ir_k (pc' := 156) (v := (1, 0)) rfl rfl rfl (fun _ => rfl) ?_
        refine ir_cVI (pc' := 159) rfl rfl rfl rfl rfl (Nat.le_of_ble_eq_true rfl) oo_X10_whole vg_582 (w_whole L ys (d + 8) s278 s278v 0 (⟨by decide, by decide⟩ : lR 0) _ hW) (fun z283 s282 hr => ?_)
        obtain ⟨s282v, z283r, hW⟩ := hr
        obtain ⟨h284, hW⟩ := hW
        refine ir_vis (pc' := 160) rfl rfl vg_615 rfl (Nat.le_of_ble_eq_true rfl) s282v rfl h284 z283r (fun s285 s285e s285v => ?_)
        have hW := hW s285 s285e
        obtain ⟨h286, h287, hW⟩ := hW
        refine ir_l (pc' := 161) rfl rfl rfl rfl rfl rfl ?_
        refine ir_vgr (pc' := 164) (c := 616) rfl rfl rfl rfl rfl s285v ?_
        refine ir_k (pc' := 165) (v := (0, 0)) rfl rfl rfl (fun _ => rfl) ?_
        refine ir_l (pc' := 167) rfl rfl rfl rfl rfl rfl ?_
        refine ir_ineg (pc' := 168) rfl rfl (w_ng0 h286) l5r.2 ?_
        refine ir_vis (pc' := 169) rfl rfl vg_616 rfl (Nat.le_of_ble_eq_true rfl) s285v rfl h287 h286 (fun s288 s288e s288v => ?_)
        have hW := hW s288 s288e
        refine ir_l (pc' := 170) rfl rfl rfl rfl rfl rfl ?_
        refine ir_vgr (pc' := 173) (c := 615) rfl rfl rfl rfl rfl s288v ?_
        refine ir_k (pc' := 174) (v := (0, 1)) rfl rfl rfl (fun _ => rfl) ?_
        refine ir_l (pc' := 175) rfl rfl rfl rfl rfl rfl ?_
        refine ir_k (pc' := 178) (v := (1, (-1))) rfl rfl rfl (fun _ => rfl) ?_
        refine ir_cVI (pc' := 181) rfl rfl rfl rfl rfl (Nat.le_of_ble_eq_true rfl) oo_X10_whole vg_582 (w_whole L ys (d + 8) s288 s288v (-1) (⟨by decide, by decide⟩ : lR (-1)) _ hW) (fun z290 s289 hr => ?_)
        obtain ⟨s289v, z290r, hW⟩ := hr
        obtain ⟨h291, hW⟩ := hW
        refine ir_vis (pc' := 182) rfl rfl vg_615 rfl (Nat.le_of_ble_eq_true rfl) s289v rfl h291 z290r (fun s292 s292e s292v => ?_)
        have hW := hW s292 s292e
        obtain ⟨h293, h294, hW⟩ := hW
        refine ir_l (pc' := 183) rfl rfl rfl rfl rfl rfl ?_
        refine ir_vgr (pc' := 186) (c := 616) rfl rfl rfl rfl rfl s292v ?_
        refine ir_k (pc' := 187) (v := (0, 1)) rfl rfl rfl (fun _ => rfl) ?_
        refine ir_l (pc' := 189) rfl rfl rfl rfl rfl rfl ?_
        refine ir_ineg (pc' := 190) rfl rfl (w_ng0 h293) l5r.2 ?_
        refine ir_vis (pc' := 191) rfl rfl vg_616 rfl (Nat.le_of_ble_eq_true rfl) s292v rfl h294 h293 (fun s295 s295e s295v => ?_)
        have hW := hW s295 s295e
        refine ir_w [(0, (2, ((582 : Nat) : Int))), (1, (0, l1)), (2, (0, l2)), (3, (0, l3)), (7, (0, (wgf s278 41))), (8, (0, 2))] ⟨rfl, rfl, rfl, rfl, rfl, rfl, trivial⟩ ?_
        obtain ⟨I9, r9, hI9, hB9⟩ := hW
        exact J191 l1 l1r l2 l2r l3 l3r (wgf s278 41) r281 I9 r9 hB9 _ 2 (⟨by decide, by decide⟩ : iR 2) s295 s295v hI9 (Nat.lt_succ_self _)
      · have hW := hW.2 c280
        obtain ⟨h296, hW⟩ := hW
        refine ir_inc (pc' := 137) rfl rfl rfl rfl rfl h296.1 h296.2 ?_
        refine ir_goto (pc' := 85) rfl rfl ?_
        refine ir_w [(0, (2, ((582 : Nat) : Int))), (1, (0, l1)), (2, (0, l2)), (3, (0, l3)), (4, (0, l4)), (5, (0, (l5 + 1))), (6, (0, l6))] ⟨rfl, rfl, rfl, rfl, rfl, rfl, rfl, trivial⟩ ?_
        exact ih85 (l5 + 1) h296 s278 s278v hW.1 (Nat.lt_of_lt_of_le hW.2 (Nat.le_of_lt_succ hr85))
  have J37 : ∀ (l1 : Int) (l1r : iR l1) (l2 : Int) (l2r : iR l2) (l3 : Int) (l3r : iR l3) (l4 : Int) (l4r : iR l4) (l5 : Int) (l5r : iR l5) (I37 : Int × Int × im_S → Prop) (r37 : Int × Int × im_S → Nat) (hB37 : ∀ a : Int × Int × im_S, I37 a → W_findRoots_37 (fun b => I37 b ∧ r37 b < r37 a) l1 l2 l3 l4 l5 a.1 a.2.1 a.2.2 Q), ∀ n37 : Nat, ∀ (l6 : Int) (l6r : iR l6) (l7 : Int) (l7r : iR l7) (s : im_S) (hv : vI s), I37 (l6, l7, s) → r37 (l6, l7, s) < n37 → ir gG rm_P L ys (d + 9) rm_p_X10_findRoots (37, [(0, (2, ((582 : Nat) : Int))), (1, (0, l1)), (2, (0, l2)), (3, (0, l3)), (4, (0, l4)), (5, (0, l5)), (6, (0, l6)), (7, (0, l7))], [], s) (fun r : im_Re => r.1 = none ∧ (vI r.2 ∧ Q r.2)) := by
    intro l1 l1r l2 l2r l3 l3r l4 l4r l5 l5r I37 r37 hB37 n37
    induction n37 with
    | zero => intro l6 l6r l7 l7r s hv hI hr; exact absurd hr (Nat.not_lt_zero _)
    | succ n37 ih37 =>
      intro l6 l6r l7 l7r s hv hI hr37
      obtain ⟨t37, ht37⟩ : ∃ t37 : Int × Int × im_S, t37 = (l6, l7, s) := ⟨_, rfl⟩
      rw [← ht37] at hr37
      have hW : W_findRoots_37 (fun b => I37 b ∧ r37 b < r37 t37) l1 l2 l3 l4 l5 l6 l7 s Q := by have z := hB37 (l6, l7, s) hI; rw [ht37]; exact z
      unfold W_findRoots_37 at hW
      obtain ⟨h297, hW⟩ := hW
      refine ir_l (pc' := 39) rfl rfl rfl rfl rfl rfl ?_
      refine ir_l (pc' := 40) rfl rfl rfl rfl rfl rfl ?_
      refine ir_vgr (pc' := 43) (c := 598) rfl rfl rfl rfl rfl hv ?_
      refine ir_l (pc' := 45) rfl rfl rfl rfl rfl rfl ?_
      refine ir_via (pc' := 46) rfl rfl vg_598 rfl (Nat.le_of_ble_eq_true rfl) hv rfl h297 (fun r298 => ?_)
      refine ir_c_ge (pt := 85) (pc' := 49) rfl rfl rfl (fun c299 => ?_) (fun c299 => ?_)
      · have hW := hW.1 c299
        refine ir_w [(0, (2, ((582 : Nat) : Int))), (1, (0, l1)), (2, (0, l2)), (3, (0, l3)), (4, (0, l4)), (5, (0, l5)), (6, (0, l6))] ⟨rfl, rfl, rfl, rfl, rfl, rfl, rfl, trivial⟩ ?_
        obtain ⟨I9, r9, hI9, hB9⟩ := hW
        exact J85 l1 l1r l2 l2r l3 l3r l4 l4r l6 l6r I9 r9 hB9 _ l5 l5r s hv hI9 (Nat.lt_succ_self _)
      · have hW := hW.2 c299
        refine ir_l (pc' := 50) rfl rfl rfl rfl rfl rfl ?_
        refine ir_l (pc' := 52) rfl rfl rfl rfl rfl rfl ?_
        refine ir_l (pc' := 54) rfl rfl rfl rfl rfl rfl ?_
        refine ir_cVI (pc' := 57) rfl rfl rfl rfl rfl (Nat.le_of_ble_eq_true rfl) oo_X10_at vg_582 (w_at L ys (d + 8) s hv l4 l4r l7 l7r _ hW) (fun z301 s300 hr => ?_)
        obtain ⟨s300v, z301r, hW⟩ := hr
        refine ir_s (pc' := 59) rfl rfl rfl rfl rfl rfl ?_
        refine ir_l (pc' := 60) rfl rfl rfl rfl rfl rfl ?_
        refine ir_l (pc' := 62) rfl rfl rfl rfl rfl rfl ?_
        refine ir_l (pc' := 64) rfl rfl rfl rfl rfl rfl ?_
        refine ir_cVI (pc' := 67) rfl rfl rfl rfl rfl (Nat.le_of_ble_eq_true rfl) oo_X10_weigh vg_582 (w_weigh L ys (d + 7) s300 s300v z301 z301r l6 l6r _ hW) (fun z303 s302 hr => ?_)
        obtain ⟨s302v, z303r, hW⟩ := hr
        have J505 : ∀ v504 : Int, iR v504 → (((iR (l7 + 1)) ∧ ((fun b => I37 b ∧ r37 b < r37 t37) (v504, (l7 + 1), s302)))) → ir gG rm_P L ys (d + 9) rm_p_X10_findRoots (77, [(0, (2, ((582 : Nat) : Int))), (1, (0, l1)), (2, (0, l2)), (3, (0, l3)), (4, (0, l4)), (5, (0, l5)), (7, (0, l7))], [(0, v504)], s302) (fun r : im_Re => r.1 = none ∧ (vI r.2 ∧ Q r.2)) := by
          intro v504 v504r hW
          obtain ⟨h506, hW⟩ := hW
          refine ir_s (pc' := 79) rfl rfl rfl rfl rfl rfl ?_
          refine ir_inc (pc' := 82) rfl rfl rfl rfl rfl h506.1 h506.2 ?_
          refine ir_goto (pc' := 37) rfl rfl ?_
          refine ir_w [(0, (2, ((582 : Nat) : Int))), (1, (0, l1)), (2, (0, l2)), (3, (0, l3)), (4, (0, l4)), (5, (0, l5)), (6, (0, v504)), (7, (0, (l7 + 1)))] ⟨rfl, rfl, rfl, rfl, rfl, rfl, rfl, rfl, trivial⟩ ?_
          exact ih37 v504 v504r (l7 + 1) h506 s302 s302v hW.1 (Nat.lt_of_lt_of_le hW.2 (Nat.le_of_lt_succ hr37))
        refine ir_z_le (pt := 75) (pc' := 70) rfl rfl rfl (fun c304 => ?_) (fun c304 => ?_)
        · refine ir_l (pc' := 77) rfl rfl rfl rfl rfl rfl ?_
          refine ir_w [(0, (2, ((582 : Nat) : Int))), (1, (0, l1)), (2, (0, l2)), (3, (0, l3)), (4, (0, l4)), (5, (0, l5)), (7, (0, l7))] ⟨rfl, rfl, rfl, rfl, rfl, rfl, rfl, trivial⟩ ?_
          exact J505 l6 l6r (hW _ (by rw [if_pos c304]))
        · refine ir_l (pc' := 72) rfl rfl rfl rfl rfl rfl ?_
          refine ir_goto (pc' := 77) rfl rfl ?_
          refine ir_w [(0, (2, ((582 : Nat) : Int))), (1, (0, l1)), (2, (0, l2)), (3, (0, l3)), (4, (0, l4)), (5, (0, l5)), (7, (0, l7))] ⟨rfl, rfl, rfl, rfl, rfl, rfl, rfl, trivial⟩ ?_
          exact J505 z301 z301r (hW _ (by rw [if_neg (fun z => c304 z)]))
  unfold W_findRoots at hW
  obtain ⟨h509, hW⟩ := hW
  refine ir_l (pc' := 1) rfl rfl rfl rfl rfl rfl ?_
  refine ir_vgi (pc' := 4) rfl rfl rfl rfl rfl hv (fun r507 => ?_)
  refine ir_s (pc' := 5) rfl rfl rfl rfl rfl rfl ?_
  refine ir_l (pc' := 6) rfl rfl rfl rfl rfl rfl ?_
  refine ir_vgi (pc' := 9) rfl rfl rfl rfl rfl hv (fun r508 => ?_)
  refine ir_s (pc' := 10) rfl rfl rfl rfl rfl rfl ?_
  refine ir_l (pc' := 11) rfl rfl rfl rfl rfl rfl ?_
  refine ir_vgr (pc' := 14) (c := 602) rfl rfl rfl rfl rfl hv ?_
  refine ir_l (pc' := 15) rfl rfl rfl rfl rfl rfl ?_
  refine ir_via (pc' := 16) rfl rfl vg_602 rfl (Nat.le_of_ble_eq_true rfl) hv rfl h509 (fun r510 => ?_)
  refine ir_s (pc' := 18) rfl rfl rfl rfl rfl rfl ?_
  refine ir_l (pc' := 19) rfl rfl rfl rfl rfl rfl ?_
  refine ir_l (pc' := 21) rfl rfl rfl rfl rfl rfl ?_
  refine ir_cVV (pc' := 24) rfl rfl rfl rfl rfl (Nat.le_of_ble_eq_true rfl) oo_X10_makeChain vg_582 (w_makeChain L ys d s hv (wga s 602 l1) r510 _ hW) (fun s511 hr => ?_)
  obtain ⟨s511v, hW⟩ := hr
  refine ir_k (pc' := 25) (v := (0, 1)) rfl rfl rfl (fun _ => rfl) ?_
  refine ir_s (pc' := 27) rfl rfl rfl rfl rfl rfl ?_
  refine ir_l (pc' := 28) rfl rfl rfl rfl rfl rfl ?_
  refine ir_k (pc' := 29) (v := (1, 0)) rfl rfl rfl (fun _ => rfl) ?_
  refine ir_cVI (pc' := 32) rfl rfl rfl rfl rfl (Nat.le_of_ble_eq_true rfl) oo_X10_whole vg_582 (w_whole L ys (d + 8) s511 s511v 0 (⟨by decide, by decide⟩ : lR 0) _ hW) (fun z514 s513 hr => ?_)
  obtain ⟨s513v, z514r, hW⟩ := hr
  refine ir_s (pc' := 34) rfl rfl rfl rfl rfl rfl ?_
  refine ir_k (pc' := 35) (v := (0, 0)) rfl rfl rfl (fun _ => rfl) ?_
  refine ir_s (pc' := 37) rfl rfl rfl rfl rfl rfl ?_
  refine ir_w [(0, (2, ((582 : Nat) : Int))), (1, (0, l1)), (2, (0, (wgf s 28))), (3, (0, (wgf s 24))), (4, (0, (wga s 602 l1))), (5, (0, 1)), (6, (0, z514)), (7, (0, 0))] ⟨rfl, rfl, rfl, rfl, rfl, rfl, rfl, rfl, trivial⟩ ?_
  obtain ⟨I9, r9, hI9, hB9⟩ := hW
  exact J37 l1 l1r (wgf s 28) r507 (wgf s 24) r508 (wga s 602 l1) r510 1 (zR_i (Or.inr rfl)) I9 r9 hB9 _ z514 z514r 0 (zR_i (Or.inl rfl)) s513 s513v hI9 (Nat.lt_succ_self _)
