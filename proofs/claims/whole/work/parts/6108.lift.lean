/-! THE REFERENCE LIFTED, by program -/
def W_endBase_152 (s : im_S) (Q : im_S → Prop) : Prop := (Q s)
def W_endBase_96 (K96 : Int × im_S → Prop) (l1 : Int) (s : im_S) (Q : im_S → Prop) : Prop := ((9 ≤ l1 → (W_endBase_152 s Q)) ∧ (¬ (9 ≤ l1) → ((iR (9 * (wgf s 21))) ∧ (0 ≤ ((9 * (wgf s 21)) + l1) ∧ ((9 * (wgf s 21)) + l1) < 108) ∧ (0 ≤ ((9 * (wgf s 21)) + l1) ∧ ((9 * (wgf s 21)) + l1) < 108) ∧ (∀ s9, s9 = wpa s 590 ((9 * (wgf s 21)) + l1) (wga s 591 ((9 * (wgf s 21)) + l1)) → ((iR (l1 + 1)) ∧ (K96 ((l1 + 1), s9)))))))
def W_endBase_74 (s : im_S) (Q : im_S → Prop) : Prop := (W_good s (fun z12 s11 => ((¬ (z12 = 0) → ((0 ≤ (wgf s11 21) ∧ (wgf s11 21) < 12) ∧ ((0 ≤ (wga s11 595 (wgf s11 21)) → ((0 ≤ (wgf s11 21) ∧ (wgf s11 21) < 12) ∧ (W_multiply (wga s11 595 (wgf s11 21)) s11 (fun s21 => (W_endBase_152 s21 Q))))) ∧ (¬ (0 ≤ (wga s11 595 (wgf s11 21))) → (wloop (fun (K : Int × im_S → Prop) (a : Int × im_S) => W_endBase_96 K a.1 a.2 Q) (0, s11)))))) ∧ (z12 = 0 → (Q s11)))))
def W_endBase_67 (s : im_S) (Q : im_S → Prop) : Prop := (W_endBase_74 s Q)
def W_endBase (s : im_S) (Q : im_S → Prop) : Prop := (W_look s (fun s23 => (W_good s23 (fun z26 s25 => ((z26 = 0 → (W_endBase_74 s25 Q)) ∧ (¬ (z26 = 0) → (W_peek s25 (fun z29 s28 => ((¬ (z29 = 94) → (W_endBase_74 s28 Q)) ∧ (z29 = 94 → ((iR ((wgf s28 4) + 1)) ∧ (∀ s34, s34 = wpf s28 4 ((wgf s28 4) + 1) → (W_peek s34 (fun z36 s35 => (W_isDigit z36 s35 (fun z38 s37 => ((z38 = 0 → (W_cannot s37 (fun s40 => (W_endBase_74 s40 Q)))) ∧ (¬ (z38 = 0) → (W_number s37 (fun z43 s42 => (W_look s42 (fun s44 => (W_good s44 (fun z47 s46 => ((z47 = 0 → (W_endBase_67 s46 Q)) ∧ (¬ (z47 = 0) → (W_raise z43 (wgf s28 4) s46 (fun s49 => (W_endBase_67 s49 Q)))))))))))))))))))))))))))))
set_option maxRecDepth 16384 in
theorem w_endBase (L : Nat) (ys : Nat → Int32) (d : Nat) (s : im_S) (hv : vI s) (Q : im_S → Prop) (hW : W_endBase s Q) : icV gG rm_P L ys (d + 4) 31 [(2, ((582 : Nat) : Int))] s (fun s9 => vI s9 ∧ Q s9) := by
  refine ic_startM (M := rm_p_X10_endBase) om_X10_endBase (Nat.le_of_ble_eq_true rfl) ?_
  refine ir_w [(0, (2, ((582 : Nat) : Int)))] ⟨rfl, trivial⟩ ?_
  have J152 : ∀ (s : im_S) (hv : vI s), W_endBase_152 s Q → ir gG rm_P L ys (d + 3) rm_p_X10_endBase (152, [], [], s) (fun r : im_Re => r.1 = none ∧ (vI r.2 ∧ Q r.2)) := by
    intro s hv hW
    unfold W_endBase_152 at hW
    exact ir_vret rfl rfl ⟨rfl, hv, hW⟩
  have J96 : ∀ (I96 : Int × im_S → Prop) (r96 : Int × im_S → Nat) (hB96 : ∀ a : Int × im_S, I96 a → W_endBase_96 (fun b => I96 b ∧ r96 b < r96 a) a.1 a.2 Q), ∀ n96 : Nat, ∀ (l1 : Int) (l1r : iR l1) (s : im_S) (hv : vI s), I96 (l1, s) → r96 (l1, s) < n96 → ir gG rm_P L ys (d + 3) rm_p_X10_endBase (96, [(0, (2, ((582 : Nat) : Int))), (1, (0, l1))], [], s) (fun r : im_Re => r.1 = none ∧ (vI r.2 ∧ Q r.2)) := by
    intro I96 r96 hB96 n96
    induction n96 with
    | zero => intro l1 l1r s hv hI hr; exact absurd hr (Nat.not_lt_zero _)
    | succ n96 ih96 =>
      intro l1 l1r s hv hI hr96
      obtain ⟨t96, ht96⟩ : ∃ t96 : Int × im_S, t96 = (l1, s) := ⟨_, rfl⟩
      rw [← ht96] at hr96
      have hW : W_endBase_96 (fun b => I96 b ∧ r96 b < r96 t96) l1 s Q := by have z := hB96 (l1, s) hI; rw [ht96]; exact z
      unfold W_endBase_96 at hW
      refine ir_l (pc' := 97) rfl rfl rfl rfl rfl rfl ?_
      refine ir_k (pc' := 99) (v := (0, 9)) rfl rfl rfl (fun _ => rfl) ?_
      refine ir_c_ge (pt := 136) (pc' := 102) rfl rfl rfl (fun c1 => ?_) (fun c1 => ?_)
      · have hW := hW.1 c1
        refine ir_goto (pc' := 152) rfl rfl ?_
        refine ir_w [] trivial ?_
        exact J152 s hv hW
      · have hW := hW.2 c1
        obtain ⟨h3, h6, h8, hW⟩ := hW
        have h4 : iR ((9 * (wgf s 21)) + l1) := ⟨by omega, by omega⟩
        refine ir_l (pc' := 103) rfl rfl rfl rfl rfl rfl ?_
        refine ir_vgr (pc' := 106) (c := 590) rfl rfl rfl rfl rfl hv ?_
        refine ir_k (pc' := 108) (v := (0, 9)) rfl rfl rfl (fun _ => rfl) ?_
        refine ir_l (pc' := 109) rfl rfl rfl rfl rfl rfl ?_
        refine ir_vgi (pc' := 112) rfl rfl rfl rfl rfl hv (fun r2 => ?_)
        refine ir_mul (pc' := 113) rfl rfl h3.1 h3.2 ?_
        refine ir_l (pc' := 114) rfl rfl rfl rfl rfl rfl ?_
        refine ir_add (pc' := 115) rfl rfl h4.1 h4.2 ?_
        refine ir_l (pc' := 116) rfl rfl rfl rfl rfl rfl ?_
        refine ir_vgr (pc' := 119) (c := 591) rfl rfl rfl rfl rfl hv ?_
        refine ir_k (pc' := 121) (v := (0, 9)) rfl rfl rfl (fun _ => rfl) ?_
        refine ir_l (pc' := 122) rfl rfl rfl rfl rfl rfl ?_
        refine ir_vgi (pc' := 125) rfl rfl rfl rfl rfl hv (fun r5 => ?_)
        refine ir_mul (pc' := 126) rfl rfl h3.1 h3.2 ?_
        refine ir_l (pc' := 127) rfl rfl rfl rfl rfl rfl ?_
        refine ir_add (pc' := 128) rfl rfl h4.1 h4.2 ?_
        refine ir_vla (pc' := 129) rfl rfl vg_591 rfl (Nat.le_of_ble_eq_true rfl) hv rfl h6 (fun r7 => ?_)
        refine ir_vls (pc' := 130) rfl rfl vg_590 rfl (Nat.le_of_ble_eq_true rfl) hv rfl h8 r7 (fun s9 s9e s9v => ?_)
        have hW := hW s9 s9e
        obtain ⟨h10, hW⟩ := hW
        refine ir_inc (pc' := 133) rfl rfl rfl rfl rfl h10.1 h10.2 ?_
        refine ir_goto (pc' := 96) rfl rfl ?_
        refine ir_w [(0, (2, ((582 : Nat) : Int))), (1, (0, (l1 + 1)))] ⟨rfl, rfl, trivial⟩ ?_
        exact ih96 (l1 + 1) h10 s9 s9v hW.1 (Nat.lt_of_lt_of_le hW.2 (Nat.le_of_lt_succ hr96))
  have J74 : ∀ (s : im_S) (hv : vI s), W_endBase_74 s Q → ir gG rm_P L ys (d + 3) rm_p_X10_endBase (74, [(0, (2, ((582 : Nat) : Int)))], [], s) (fun r : im_Re => r.1 = none ∧ (vI r.2 ∧ Q r.2)) := by
    intro s hv hW
    unfold W_endBase_74 at hW
    refine ir_l (pc' := 75) rfl rfl rfl rfl rfl rfl ?_
    refine ir_cVI (pc' := 78) rfl rfl rfl rfl rfl (Nat.le_of_ble_eq_true rfl) oo_X10_good vg_582 (w_good L ys (d + 2) s hv  _ hW) (fun z12 s11 hr => ?_)
    obtain ⟨s11v, z12r, hW⟩ := hr
    refine ir_z_ne (pt := 82) (pc' := 81) rfl rfl rfl (fun c13 => ?_) (fun c13 => ?_)
    · have hW := hW.1 c13
      obtain ⟨h15, hW⟩ := hW
      refine ir_l (pc' := 83) rfl rfl rfl rfl rfl rfl ?_
      refine ir_vgr (pc' := 86) (c := 595) rfl rfl rfl rfl rfl s11v ?_
      refine ir_l (pc' := 87) rfl rfl rfl rfl rfl rfl ?_
      refine ir_vgi (pc' := 90) rfl rfl rfl rfl rfl s11v (fun r14 => ?_)
      refine ir_via (pc' := 91) rfl rfl vg_595 rfl (Nat.le_of_ble_eq_true rfl) s11v rfl h15 (fun r16 => ?_)
      refine ir_z_ge (pt := 139) (pc' := 94) rfl rfl rfl (fun c17 => ?_) (fun c17 => ?_)
      · have hW := hW.1 c17
        obtain ⟨h19, hW⟩ := hW
        refine ir_l (pc' := 140) rfl rfl rfl rfl rfl rfl ?_
        refine ir_l (pc' := 141) rfl rfl rfl rfl rfl rfl ?_
        refine ir_vgr (pc' := 144) (c := 595) rfl rfl rfl rfl rfl s11v ?_
        refine ir_l (pc' := 145) rfl rfl rfl rfl rfl rfl ?_
        refine ir_vgi (pc' := 148) rfl rfl rfl rfl rfl s11v (fun r18 => ?_)
        refine ir_via (pc' := 149) rfl rfl vg_595 rfl (Nat.le_of_ble_eq_true rfl) s11v rfl h19 (fun r20 => ?_)
        refine ir_cVV (pc' := 152) rfl rfl rfl rfl rfl (Nat.le_of_ble_eq_true rfl) oo_X10_multiply vg_582 (w_multiply L ys (d + 1) s11 s11v (wga s11 595 (wgf s11 21)) r20 _ hW) (fun s21 hr => ?_)
        obtain ⟨s21v, hW⟩ := hr
        refine ir_w [] trivial ?_
        exact J152 s21 s21v hW
      · have hW := hW.2 c17
        refine ir_k (pc' := 95) (v := (0, 0)) rfl rfl rfl (fun _ => rfl) ?_
        refine ir_s (pc' := 96) rfl rfl rfl rfl rfl rfl ?_
        refine ir_w [(0, (2, ((582 : Nat) : Int))), (1, (0, 0))] ⟨rfl, rfl, trivial⟩ ?_
        obtain ⟨I9, r9, hI9, hB9⟩ := hW
        exact J96 I9 r9 hB9 _ 0 (zR_i (Or.inl rfl)) s11 s11v hI9 (Nat.lt_succ_self _)
    · have hW := hW.2 c13
      exact ir_vret rfl rfl ⟨rfl, s11v, hW⟩
  have J67 : ∀ (s : im_S) (hv : vI s), W_endBase_67 s Q → ir gG rm_P L ys (d + 3) rm_p_X10_endBase (67, [(0, (2, ((582 : Nat) : Int)))], [], s) (fun r : im_Re => r.1 = none ∧ (vI r.2 ∧ Q r.2)) := by
    intro s hv hW
    unfold W_endBase_67 at hW
    refine ir_goto (pc' := 74) rfl rfl ?_
    refine ir_w [(0, (2, ((582 : Nat) : Int)))] ⟨rfl, trivial⟩ ?_
    exact J74 s hv hW
  unfold W_endBase at hW
  refine ir_l (pc' := 1) rfl rfl rfl rfl rfl rfl ?_
  refine ir_cVV (pc' := 4) rfl rfl rfl rfl rfl (Nat.le_of_ble_eq_true rfl) oo_X10_look vg_582 (w_look L ys d s hv  _ hW) (fun s23 hr => ?_)
  obtain ⟨s23v, hW⟩ := hr
  refine ir_l (pc' := 5) rfl rfl rfl rfl rfl rfl ?_
  refine ir_cVI (pc' := 8) rfl rfl rfl rfl rfl (Nat.le_of_ble_eq_true rfl) oo_X10_good vg_582 (w_good L ys (d + 2) s23 s23v  _ hW) (fun z26 s25 hr => ?_)
  obtain ⟨s25v, z26r, hW⟩ := hr
  refine ir_z_eq (pt := 74) (pc' := 11) rfl rfl rfl (fun c27 => ?_) (fun c27 => ?_)
  · have hW := hW.1 c27
    refine ir_w [(0, (2, ((582 : Nat) : Int)))] ⟨rfl, trivial⟩ ?_
    exact J74 s25 s25v hW
  · have hW := hW.2 c27
    refine ir_l (pc' := 12) rfl rfl rfl rfl rfl rfl ?_
    refine ir_cVI (pc' := 15) rfl rfl rfl rfl rfl (Nat.le_of_ble_eq_true rfl) oo_X10_peek vg_582 (w_peek L ys (d + 2) s25 s25v  _ hW) (fun z29 s28 hr => ?_)
    obtain ⟨s28v, z29r, hW⟩ := hr
    refine ir_k (pc' := 17) (v := (0, 94)) rfl rfl rfl (fun _ => rfl) ?_
    refine ir_c_ne (pt := 74) (pc' := 20) rfl rfl rfl (fun c30 => ?_) (fun c30 => ?_)
    · have hW := hW.1 c30
      refine ir_w [(0, (2, ((582 : Nat) : Int)))] ⟨rfl, trivial⟩ ?_
      exact J74 s28 s28v hW
    · have hW := hW.2 c30
      obtain ⟨h33, hW⟩ := hW
      refine ir_l (pc' := 21) rfl rfl rfl rfl rfl rfl ?_
      refine ir_vgi (pc' := 24) rfl rfl rfl rfl rfl s28v (fun r31 => ?_)
      refine ir_s (pc' := 25) rfl rfl rfl rfl rfl rfl ?_
      refine ir_l (pc' := 26) rfl rfl rfl rfl rfl rfl ?_
      refine ir_x (pc' := 27) rfl rfl rfl (fun _ => rfl) ?_
      refine ir_vgi (pc' := 30) rfl rfl rfl rfl rfl s28v (fun r32 => ?_)
      refine ir_k (pc' := 31) (v := (0, 1)) rfl rfl rfl (fun _ => rfl) ?_
      refine ir_add (pc' := 32) rfl rfl h33.1 h33.2 ?_
      refine ir_vpi (pc' := 35) rfl rfl rfl rfl rfl rfl rfl s28v h33 (fun s34 s34e s34v => ?_)
      have hW := hW s34 s34e
      refine ir_l (pc' := 36) rfl rfl rfl rfl rfl rfl ?_
      refine ir_cVI (pc' := 39) rfl rfl rfl rfl rfl (Nat.le_of_ble_eq_true rfl) oo_X10_peek vg_582 (w_peek L ys (d + 2) s34 s34v  _ hW) (fun z36 s35 hr => ?_)
      obtain ⟨s35v, z36r, hW⟩ := hr
      refine ir_cSI (pc' := 42) rfl rfl rfl rfl rfl rfl (Nat.le_of_ble_eq_true rfl) (w_isDigit L ys (d + 2) s35 s35v z36 z36r _ hW) (fun z38 s37 hr => ?_)
      obtain ⟨s37v, z38r, hW⟩ := hr
      refine ir_z_eq (pt := 70) (pc' := 45) rfl rfl rfl (fun c39 => ?_) (fun c39 => ?_)
      · have hW := hW.1 c39
        refine ir_l (pc' := 71) rfl rfl rfl rfl rfl rfl ?_
        refine ir_cVV (pc' := 74) rfl rfl rfl rfl rfl (Nat.le_of_ble_eq_true rfl) oo_X10_cannot vg_582 (w_cannot L ys d s37 s37v  _ hW) (fun s40 hr => ?_)
        obtain ⟨s40v, hW⟩ := hr
        refine ir_w [(0, (2, ((582 : Nat) : Int)))] ⟨rfl, trivial⟩ ?_
        exact J74 s40 s40v hW
      · have hW := hW.2 c39
        refine ir_l (pc' := 46) rfl rfl rfl rfl rfl rfl ?_
        refine ir_cVI (pc' := 49) rfl rfl rfl rfl rfl (Nat.le_of_ble_eq_true rfl) oo_X10_number vg_582 (w_number L ys (d + 1) s37 s37v  _ hW) (fun z43 s42 hr => ?_)
        obtain ⟨s42v, z43r, hW⟩ := hr
        refine ir_s (pc' := 50) rfl rfl rfl rfl rfl rfl ?_
        refine ir_l (pc' := 51) rfl rfl rfl rfl rfl rfl ?_
        refine ir_cVV (pc' := 54) rfl rfl rfl rfl rfl (Nat.le_of_ble_eq_true rfl) oo_X10_look vg_582 (w_look L ys d s42 s42v  _ hW) (fun s44 hr => ?_)
        obtain ⟨s44v, hW⟩ := hr
        refine ir_l (pc' := 55) rfl rfl rfl rfl rfl rfl ?_
        refine ir_cVI (pc' := 58) rfl rfl rfl rfl rfl (Nat.le_of_ble_eq_true rfl) oo_X10_good vg_582 (w_good L ys (d + 2) s44 s44v  _ hW) (fun z47 s46 hr => ?_)
        obtain ⟨s46v, z47r, hW⟩ := hr
        refine ir_z_eq (pt := 67) (pc' := 61) rfl rfl rfl (fun c48 => ?_) (fun c48 => ?_)
        · have hW := hW.1 c48
          refine ir_w [(0, (2, ((582 : Nat) : Int)))] ⟨rfl, trivial⟩ ?_
          exact J67 s46 s46v hW
        · have hW := hW.2 c48
          refine ir_l (pc' := 62) rfl rfl rfl rfl rfl rfl ?_
          refine ir_l (pc' := 63) rfl rfl rfl rfl rfl rfl ?_
          refine ir_l (pc' := 64) rfl rfl rfl rfl rfl rfl ?_
          refine ir_cVV (pc' := 67) rfl rfl rfl rfl rfl (Nat.le_of_ble_eq_true rfl) oo_X10_raise vg_582 (w_raise L ys d s46 s46v z43 z43r (wgf s28 4) r31 _ hW) (fun s49 hr => ?_)
          obtain ⟨s49v, hW⟩ := hr
          refine ir_w [(0, (2, ((582 : Nat) : Int)))] ⟨rfl, trivial⟩ ?_
          exact J67 s49 s49v hW
def W_endBracket_33 (K33 : Int × im_S → Prop) (l2 : Int) (s : im_S) (Q : im_S → Prop) : Prop := ((9 ≤ l2 → (W_endBase s (fun s2 => (Q s2)))) ∧ (¬ (9 ≤ l2) → ((iR (9 * (wgf s 21))) ∧ (iR ((wgf s 21) + 1)) ∧ (iR (9 * ((wgf s 21) + 1))) ∧ (0 ≤ ((9 * ((wgf s 21) + 1)) + l2) ∧ ((9 * ((wgf s 21) + 1)) + l2) < 108) ∧ (0 ≤ ((9 * (wgf s 21)) + l2) ∧ ((9 * (wgf s 21)) + l2) < 108) ∧ (∀ s14, s14 = wpa s 591 ((9 * (wgf s 21)) + l2) (wga s 589 ((9 * ((wgf s 21) + 1)) + l2)) → ((iR (l2 + 1)) ∧ (K33 ((l2 + 1), s14)))))))
def W_endBracket (l1 : Int) (s : im_S) (Q : im_S → Prop) : Prop := ((l1 = 41 → ((iR ((wgf s 4) + 1)) ∧ (∀ s19, s19 = wpf s 4 ((wgf s 4) + 1) → ((iR ((wgf s19 21) - 1)) ∧ (∀ s22, s22 = wpf s19 21 ((wgf s19 21) - 1) → (wloop (fun (K : Int × im_S → Prop) (a : Int × im_S) => W_endBracket_33 K a.1 a.2 Q) (0, s22))))))) ∧ (¬ (l1 = 41) → (W_cannot s (fun s23 => (Q s23)))))
set_option maxRecDepth 16384 in
theorem w_endBracket (L : Nat) (ys : Nat → Int32) (d : Nat) (s : im_S) (hv : vI s) (l1 : Int) (l1r : iR l1) (Q : im_S → Prop) (hW : W_endBracket l1 s Q) : icV gG rm_P L ys (d + 5) 32 [(2, ((582 : Nat) : Int)), (0, l1)] s (fun s9 => vI s9 ∧ Q s9) := by
  refine ic_startM (M := rm_p_X10_endBracket) om_X10_endBracket (Nat.le_of_ble_eq_true rfl) ?_
  refine ir_w [(0, (2, ((582 : Nat) : Int))), (1, (0, l1))] ⟨rfl, rfl, trivial⟩ ?_
  have J33 : ∀ (I33 : Int × im_S → Prop) (r33 : Int × im_S → Nat) (hB33 : ∀ a : Int × im_S, I33 a → W_endBracket_33 (fun b => I33 b ∧ r33 b < r33 a) a.1 a.2 Q), ∀ n33 : Nat, ∀ (l2 : Int) (l2r : iR l2) (s : im_S) (hv : vI s), I33 (l2, s) → r33 (l2, s) < n33 → ir gG rm_P L ys (d + 4) rm_p_X10_endBracket (33, [(0, (2, ((582 : Nat) : Int))), (2, (0, l2))], [], s) (fun r : im_Re => r.1 = none ∧ (vI r.2 ∧ Q r.2)) := by
    intro I33 r33 hB33 n33
    induction n33 with
    | zero => intro l2 l2r s hv hI hr; exact absurd hr (Nat.not_lt_zero _)
    | succ n33 ih33 =>
      intro l2 l2r s hv hI hr33
      obtain ⟨t33, ht33⟩ : ∃ t33 : Int × im_S, t33 = (l2, s) := ⟨_, rfl⟩
      rw [← ht33] at hr33
      have hW : W_endBracket_33 (fun b => I33 b ∧ r33 b < r33 t33) l2 s Q := by have z := hB33 (l2, s) hI; rw [ht33]; exact z
      unfold W_endBracket_33 at hW
      refine ir_l (pc' := 34) rfl rfl rfl rfl rfl rfl ?_
      refine ir_k (pc' := 36) (v := (0, 9)) rfl rfl rfl (fun _ => rfl) ?_
      refine ir_c_ge (pt := 75) (pc' := 39) rfl rfl rfl (fun c1 => ?_) (fun c1 => ?_)
      · have hW := hW.1 c1
        refine ir_l (pc' := 76) rfl rfl rfl rfl rfl rfl ?_
        refine ir_cVV (pc' := 79) rfl rfl rfl rfl rfl (Nat.le_of_ble_eq_true rfl) oo_X10_endBase vg_582 (w_endBase L ys d s hv  _ hW) (fun s2 hr => ?_)
        obtain ⟨s2v, hW⟩ := hr
        exact ir_vret rfl rfl ⟨rfl, s2v, hW⟩
      · have hW := hW.2 c1
        obtain ⟨h5, h8, h9, h11, h13, hW⟩ := hW
        have h6 : iR ((9 * (wgf s 21)) + l2) := ⟨by omega, by omega⟩
        have h10 : iR ((9 * ((wgf s 21) + 1)) + l2) := ⟨by omega, by omega⟩
        refine ir_l (pc' := 40) rfl rfl rfl rfl rfl rfl ?_
        refine ir_vgr (pc' := 43) (c := 591) rfl rfl rfl rfl rfl hv ?_
        refine ir_k (pc' := 45) (v := (0, 9)) rfl rfl rfl (fun _ => rfl) ?_
        refine ir_l (pc' := 46) rfl rfl rfl rfl rfl rfl ?_
        refine ir_vgi (pc' := 49) rfl rfl rfl rfl rfl hv (fun r4 => ?_)
        refine ir_mul (pc' := 50) rfl rfl h5.1 h5.2 ?_
        refine ir_l (pc' := 51) rfl rfl rfl rfl rfl rfl ?_
        refine ir_add (pc' := 52) rfl rfl h6.1 h6.2 ?_
        refine ir_l (pc' := 53) rfl rfl rfl rfl rfl rfl ?_
        refine ir_vgr (pc' := 56) (c := 589) rfl rfl rfl rfl rfl hv ?_
        refine ir_k (pc' := 58) (v := (0, 9)) rfl rfl rfl (fun _ => rfl) ?_
        refine ir_l (pc' := 59) rfl rfl rfl rfl rfl rfl ?_
        refine ir_vgi (pc' := 62) rfl rfl rfl rfl rfl hv (fun r7 => ?_)
        refine ir_k (pc' := 63) (v := (0, 1)) rfl rfl rfl (fun _ => rfl) ?_
        refine ir_add (pc' := 64) rfl rfl h8.1 h8.2 ?_
        refine ir_mul (pc' := 65) rfl rfl h9.1 h9.2 ?_
        refine ir_l (pc' := 66) rfl rfl rfl rfl rfl rfl ?_
        refine ir_add (pc' := 67) rfl rfl h10.1 h10.2 ?_
        refine ir_vla (pc' := 68) rfl rfl vg_589 rfl (Nat.le_of_ble_eq_true rfl) hv rfl h11 (fun r12 => ?_)
        refine ir_vls (pc' := 69) rfl rfl vg_591 rfl (Nat.le_of_ble_eq_true rfl) hv rfl h13 r12 (fun s14 s14e s14v => ?_)
        have hW := hW s14 s14e
        obtain ⟨h15, hW⟩ := hW
        refine ir_inc (pc' := 72) rfl rfl rfl rfl rfl h15.1 h15.2 ?_
        refine ir_goto (pc' := 33) rfl rfl ?_
        refine ir_w [(0, (2, ((582 : Nat) : Int))), (2, (0, (l2 + 1)))] ⟨rfl, rfl, trivial⟩ ?_
        exact ih33 (l2 + 1) h15 s14 s14v hW.1 (Nat.lt_of_lt_of_le hW.2 (Nat.le_of_lt_succ hr33))
  unfold W_endBracket at hW
  refine ir_l (pc' := 1) rfl rfl rfl rfl rfl rfl ?_
  refine ir_k (pc' := 3) (v := (0, 41)) rfl rfl rfl (fun _ => rfl) ?_
  refine ir_c_eq (pt := 11) (pc' := 6) rfl rfl rfl (fun c16 => ?_) (fun c16 => ?_)
  · have hW := hW.1 c16
    obtain ⟨h18, hW⟩ := hW
    refine ir_l (pc' := 12) rfl rfl rfl rfl rfl rfl ?_
    refine ir_x (pc' := 13) rfl rfl rfl (fun _ => rfl) ?_
    refine ir_vgi (pc' := 16) rfl rfl rfl rfl rfl hv (fun r17 => ?_)
    refine ir_k (pc' := 17) (v := (0, 1)) rfl rfl rfl (fun _ => rfl) ?_
    refine ir_add (pc' := 18) rfl rfl h18.1 h18.2 ?_
    refine ir_vpi (pc' := 21) rfl rfl rfl rfl rfl rfl rfl hv h18 (fun s19 s19e s19v => ?_)
    have hW := hW s19 s19e
    obtain ⟨h21, hW⟩ := hW
    refine ir_l (pc' := 22) rfl rfl rfl rfl rfl rfl ?_
    refine ir_x (pc' := 23) rfl rfl rfl (fun _ => rfl) ?_
    refine ir_vgi (pc' := 26) rfl rfl rfl rfl rfl s19v (fun r20 => ?_)
    refine ir_k (pc' := 27) (v := (0, 1)) rfl rfl rfl (fun _ => rfl) ?_
    refine ir_sub (pc' := 28) rfl rfl h21.1 h21.2 ?_
    refine ir_vpi (pc' := 31) rfl rfl rfl rfl rfl rfl rfl s19v h21 (fun s22 s22e s22v => ?_)
    have hW := hW s22 s22e
    refine ir_k (pc' := 32) (v := (0, 0)) rfl rfl rfl (fun _ => rfl) ?_
    refine ir_s (pc' := 33) rfl rfl rfl rfl rfl rfl ?_
    refine ir_w [(0, (2, ((582 : Nat) : Int))), (2, (0, 0))] ⟨rfl, rfl, trivial⟩ ?_
    obtain ⟨I9, r9, hI9, hB9⟩ := hW
    exact J33 I9 r9 hB9 _ 0 (zR_i (Or.inl rfl)) s22 s22v hI9 (Nat.lt_succ_self _)
  · have hW := hW.2 c16
    refine ir_l (pc' := 7) rfl rfl rfl rfl rfl rfl ?_
    refine ir_cVV (pc' := 10) rfl rfl rfl rfl rfl (Nat.le_of_ble_eq_true rfl) oo_X10_cannot vg_582 (w_cannot L ys (d + 1) s hv  _ hW) (fun s23 hr => ?_)
    obtain ⟨s23v, hW⟩ := hr
    exact ir_vret rfl rfl ⟨rfl, s23v, hW⟩
def W_endTerm_71 (K2 : Int × im_S → Prop) (l1 : Int) (s : im_S) (Q : im_S → Prop) : Prop := ((iR (l1 + 1)) ∧ (K2 ((l1 + 1), s)))
def W_endTerm_2 (K2 : Int × im_S → Prop) (l1 : Int) (s : im_S) (Q : im_S → Prop) : Prop := ((9 ≤ l1 → ((0 ≤ (wgf s 21) ∧ (wgf s 21) < 12) ∧ (∀ s5, s5 = wpa s 595 (wgf s 21) (-1) → (Q s5)))) ∧ (¬ (9 ≤ l1) → ((iR (9 * (wgf s 21))) ∧ (0 ≤ ((9 * (wgf s 21)) + l1) ∧ ((9 * (wgf s 21)) + l1) < 108) ∧ (0 ≤ (wgf s 21) ∧ (wgf s 21) < 12) ∧ (lR ((wga s 593 (wgf s 21)) * (wga s 590 ((9 * (wgf s 21)) + l1)))) ∧ (lR ((wga s 589 ((9 * (wgf s 21)) + l1)) + ((wga s 593 (wgf s 21)) * (wga s 590 ((9 * (wgf s 21)) + l1))))) ∧ (0 ≤ ((9 * (wgf s 21)) + l1) ∧ ((9 * (wgf s 21)) + l1) < 108) ∧ (∀ s18, s18 = wpa s 589 ((9 * (wgf s 21)) + l1) ((wga s 589 ((9 * (wgf s 21)) + l1)) + ((wga s 593 (wgf s 21)) * (wga s 590 ((9 * (wgf s 21)) + l1)))) → ((0 ≤ ((9 * (wgf s 21)) + l1) ∧ ((9 * (wgf s 21)) + l1) < 108) ∧ (W_isFine (wga s18 589 ((9 * (wgf s 21)) + l1)) s18 (fun z22 s21 => ((¬ (z22 = 0) → (W_endTerm_71 K2 l1 s21 Q)) ∧ (z22 = 0 → ((0 ≤ (wgf s21 21) ∧ (wgf s21 21) < 12) ∧ (W_fail 3 (wga s21 594 (wgf s21 21)) s21 (fun s27 => (W_endTerm_71 K2 l1 s27 Q)))))))))))))
def W_endTerm (s : im_S) (Q : im_S → Prop) : Prop := (wloop (fun (K : Int × im_S → Prop) (a : Int × im_S) => W_endTerm_2 K a.1 a.2 Q) (0, s))
set_option maxRecDepth 16384 in
theorem w_endTerm (L : Nat) (ys : Nat → Int32) (d : Nat) (s : im_S) (hv : vI s) (Q : im_S → Prop) (hW : W_endTerm s Q) : icV gG rm_P L ys (d + 2) 33 [(2, ((582 : Nat) : Int))] s (fun s9 => vI s9 ∧ Q s9) := by
  refine ic_startM (M := rm_p_X10_endTerm) om_X10_endTerm (Nat.le_of_ble_eq_true rfl) ?_
  refine ir_w [(0, (2, ((582 : Nat) : Int)))] ⟨rfl, trivial⟩ ?_
  have J2 : ∀ (I2 : Int × im_S → Prop) (r2 : Int × im_S → Nat) (hB2 : ∀ a : Int × im_S, I2 a → W_endTerm_2 (fun b => I2 b ∧ r2 b < r2 a) a.1 a.2 Q), ∀ n2 : Nat, ∀ (l1 : Int) (l1r : iR l1) (s : im_S) (hv : vI s), I2 (l1, s) → r2 (l1, s) < n2 → ir gG rm_P L ys (d + 1) rm_p_X10_endTerm (2, [(0, (2, ((582 : Nat) : Int))), (1, (0, l1))], [], s) (fun r : im_Re => r.1 = none ∧ (vI r.2 ∧ Q r.2)) := by
    intro I2 r2 hB2 n2
    induction n2 with
    | zero => intro l1 l1r s hv hI hr; exact absurd hr (Nat.not_lt_zero _)
    | succ n2 ih2 =>
      intro l1 l1r s hv hI hr2
      obtain ⟨t2, ht2⟩ : ∃ t2 : Int × im_S, t2 = (l1, s) := ⟨_, rfl⟩
      rw [← ht2] at hr2
      have hW : W_endTerm_2 (fun b => I2 b ∧ r2 b < r2 t2) l1 s Q := by have z := hB2 (l1, s) hI; rw [ht2]; exact z
      have J71 : ∀ (l1 : Int) (l1r : iR l1) (s : im_S) (hv : vI s), W_endTerm_71 (fun b => I2 b ∧ r2 b < r2 t2) l1 s Q → ir gG rm_P L ys (d + 1) rm_p_X10_endTerm (71, [(0, (2, ((582 : Nat) : Int))), (1, (0, l1))], [], s) (fun r : im_Re => r.1 = none ∧ (vI r.2 ∧ Q r.2)) := by
        intro l1 l1r s hv hW
        unfold W_endTerm_71 at hW
        obtain ⟨h1, hW⟩ := hW
        refine ir_inc (pc' := 74) rfl rfl rfl rfl rfl h1.1 h1.2 ?_
        refine ir_goto (pc' := 2) rfl rfl ?_
        refine ir_w [(0, (2, ((582 : Nat) : Int))), (1, (0, (l1 + 1)))] ⟨rfl, rfl, trivial⟩ ?_
        exact ih2 (l1 + 1) h1 s hv hW.1 (Nat.lt_of_lt_of_le hW.2 (Nat.le_of_lt_succ hr2))
      unfold W_endTerm_2 at hW
      refine ir_l (pc' := 3) rfl rfl rfl rfl rfl rfl ?_
      refine ir_k (pc' := 5) (v := (0, 9)) rfl rfl rfl (fun _ => rfl) ?_
      refine ir_c_ge (pt := 77) (pc' := 8) rfl rfl rfl (fun c2 => ?_) (fun c2 => ?_)
      · have hW := hW.1 c2
        obtain ⟨h4, hW⟩ := hW
        refine ir_l (pc' := 78) rfl rfl rfl rfl rfl rfl ?_
        refine ir_vgr (pc' := 81) (c := 595) rfl rfl rfl rfl rfl hv ?_
        refine ir_l (pc' := 82) rfl rfl rfl rfl rfl rfl ?_
        refine ir_vgi (pc' := 85) rfl rfl rfl rfl rfl hv (fun r3 => ?_)
        refine ir_k (pc' := 86) (v := (0, (-1))) rfl rfl rfl (fun _ => rfl) ?_
        refine ir_vis (pc' := 87) rfl rfl vg_595 rfl (Nat.le_of_ble_eq_true rfl) hv rfl h4 (⟨by decide, by decide⟩ : iR (-1)) (fun s5 s5e s5v => ?_)
        have hW := hW s5 s5e
        exact ir_vret rfl rfl ⟨rfl, s5v, hW⟩
      · have hW := hW.2 c2
        obtain ⟨h7, h9, h12, h15, h16, h17, hW⟩ := hW
        have h8 : iR ((9 * (wgf s 21)) + l1) := ⟨by omega, by omega⟩
        refine ir_k (pc' := 10) (v := (0, 9)) rfl rfl rfl (fun _ => rfl) ?_
        refine ir_l (pc' := 11) rfl rfl rfl rfl rfl rfl ?_
        refine ir_vgi (pc' := 14) rfl rfl rfl rfl rfl hv (fun r6 => ?_)
        refine ir_mul (pc' := 15) rfl rfl h7.1 h7.2 ?_
        refine ir_l (pc' := 16) rfl rfl rfl rfl rfl rfl ?_
        refine ir_add (pc' := 17) rfl rfl h8.1 h8.2 ?_
        refine ir_s (pc' := 18) rfl rfl rfl rfl rfl rfl ?_
        refine ir_l (pc' := 19) rfl rfl rfl rfl rfl rfl ?_
        refine ir_vgr (pc' := 22) (c := 589) rfl rfl rfl rfl rfl hv ?_
        refine ir_l (pc' := 23) rfl rfl rfl rfl rfl rfl ?_
        refine ir_x (pc' := 24) rfl rfl rfl (fun _ => rfl) ?_
        refine ir_vla (pc' := 25) rfl rfl vg_589 rfl (Nat.le_of_ble_eq_true rfl) hv rfl h9 (fun r10 => ?_)
        refine ir_l (pc' := 26) rfl rfl rfl rfl rfl rfl ?_
        refine ir_vgr (pc' := 29) (c := 593) rfl rfl rfl rfl rfl hv ?_
        refine ir_l (pc' := 30) rfl rfl rfl rfl rfl rfl ?_
        refine ir_vgi (pc' := 33) rfl rfl rfl rfl rfl hv (fun r11 => ?_)
        refine ir_via (pc' := 34) rfl rfl vg_593 rfl (Nat.le_of_ble_eq_true rfl) hv rfl h12 (fun r13 => ?_)
        refine ir_i2l (pc' := 35) rfl rfl r13.1 r13.2 ?_
        refine ir_l (pc' := 36) rfl rfl rfl rfl rfl rfl ?_
        refine ir_vgr (pc' := 39) (c := 590) rfl rfl rfl rfl rfl hv ?_
        refine ir_l (pc' := 40) rfl rfl rfl rfl rfl rfl ?_
        refine ir_vla (pc' := 41) rfl rfl vg_590 rfl (Nat.le_of_ble_eq_true rfl) hv rfl h9 (fun r14 => ?_)
        refine ir_lmul (pc' := 42) rfl rfl h15.1 h15.2 ?_
        refine ir_ladd (pc' := 43) rfl rfl h16.1 h16.2 ?_
        refine ir_vls (pc' := 44) rfl rfl vg_589 rfl (Nat.le_of_ble_eq_true rfl) hv rfl h17 h16 (fun s18 s18e s18v => ?_)
        have hW := hW s18 s18e
        obtain ⟨h19, hW⟩ := hW
        refine ir_l (pc' := 45) rfl rfl rfl rfl rfl rfl ?_
        refine ir_l (pc' := 46) rfl rfl rfl rfl rfl rfl ?_
        refine ir_vgr (pc' := 49) (c := 589) rfl rfl rfl rfl rfl s18v ?_
        refine ir_l (pc' := 50) rfl rfl rfl rfl rfl rfl ?_
        refine ir_vla (pc' := 51) rfl rfl vg_589 rfl (Nat.le_of_ble_eq_true rfl) s18v rfl h19 (fun r20 => ?_)
        refine ir_cVI (pc' := 54) rfl rfl rfl rfl rfl (Nat.le_of_ble_eq_true rfl) oo_X10_isFine vg_582 (w_isFine L ys d s18 s18v (wga s18 589 ((9 * (wgf s 21)) + l1)) r20 _ hW) (fun z22 s21 hr => ?_)
        obtain ⟨s21v, z22r, hW⟩ := hr
        refine ir_z_ne (pt := 71) (pc' := 57) rfl rfl rfl (fun c23 => ?_) (fun c23 => ?_)
        · have hW := hW.1 c23
          refine ir_w [(0, (2, ((582 : Nat) : Int))), (1, (0, l1))] ⟨rfl, rfl, trivial⟩ ?_
          exact J71 l1 l1r s21 s21v hW
        · have hW := hW.2 c23
          obtain ⟨h25, hW⟩ := hW
          refine ir_l (pc' := 58) rfl rfl rfl rfl rfl rfl ?_
          refine ir_k (pc' := 59) (v := (0, 3)) rfl rfl rfl (fun _ => rfl) ?_
          refine ir_l (pc' := 60) rfl rfl rfl rfl rfl rfl ?_
          refine ir_vgr (pc' := 63) (c := 594) rfl rfl rfl rfl rfl s21v ?_
          refine ir_l (pc' := 64) rfl rfl rfl rfl rfl rfl ?_
          refine ir_vgi (pc' := 67) rfl rfl rfl rfl rfl s21v (fun r24 => ?_)
          refine ir_via (pc' := 68) rfl rfl vg_594 rfl (Nat.le_of_ble_eq_true rfl) s21v rfl h25 (fun r26 => ?_)
          refine ir_cVV (pc' := 71) rfl rfl rfl rfl rfl (Nat.le_of_ble_eq_true rfl) oo_X10_fail vg_582 (w_fail L ys d s21 s21v 3 (⟨by decide, by decide⟩ : iR 3) (wga s21 594 (wgf s21 21)) r26 _ hW) (fun s27 hr => ?_)
          obtain ⟨s27v, hW⟩ := hr
          refine ir_w [(0, (2, ((582 : Nat) : Int))), (1, (0, l1))] ⟨rfl, rfl, trivial⟩ ?_
          exact J71 l1 l1r s27 s27v hW
  unfold W_endTerm at hW
  refine ir_k (pc' := 1) (v := (0, 0)) rfl rfl rfl (fun _ => rfl) ?_
  refine ir_s (pc' := 2) rfl rfl rfl rfl rfl rfl ?_
  refine ir_w [(0, (2, ((582 : Nat) : Int))), (1, (0, 0))] ⟨rfl, rfl, trivial⟩ ?_
  obtain ⟨I9, r9, hI9, hB9⟩ := hW
  exact J2 I9 r9 hB9 _ 0 (zR_i (Or.inl rfl)) s hv hI9 (Nat.lt_succ_self _)
def W_exact_17 (s : im_S) (Q : Int → im_S → Prop) : Prop := (Q (-9000000000000000000) s)
def W_exact (l1 : Int) (l2 : Int) (s : im_S) (Q : Int → im_S → Prop) : Prop := (W_isRoot l1 s (fun z2 s1 => ((z2 = 0 → (W_exact_17 s1 Q)) ∧ (¬ (z2 = 0) → ((l2 < 0 → (W_exact_17 s1 Q)) ∧ (¬ (l2 < 0) → ((l2 ≤ 1 → ((0 ≤ l1 ∧ l1 < 90) ∧ (0 ≤ (wga s1 614 l1) ∧ (wga s1 614 l1) < 90) ∧ (∀ v211 : Int, v211 = (if ¬ ((wga s1 609 (wga s1 614 l1)) = 0) then (if ¬ (l2 = 0) then (wga s1 609 (wga s1 614 l1)) else (wga s1 608 (wga s1 614 l1))) else (-9000000000000000002)) → (Q v211 s1)))) ∧ (¬ (l2 ≤ 1) → (W_exact_17 s1 Q)))))))))
set_option maxRecDepth 16384 in
theorem w_exact (L : Nat) (ys : Nat → Int32) (d : Nat) (s : im_S) (hv : vI s) (l1 : Int) (l1r : iR l1) (l2 : Int) (l2r : iR l2) (Q : Int → im_S → Prop) (hW : W_exact l1 l2 s Q) : icI gG rm_P L ys 1 (d + 2) 34 [(2, ((582 : Nat) : Int)), (0, l1), (0, l2)] s (fun z9 s9 => vI s9 ∧ lR z9 ∧ Q z9 s9) := by
  refine ic_startM (M := rm_p_X10_exact) om_X10_exact (Nat.le_of_ble_eq_true rfl) ?_
  refine ir_w [(0, (2, ((582 : Nat) : Int))), (1, (0, l1)), (2, (0, l2))] ⟨rfl, rfl, rfl, trivial⟩ ?_
  have J17 : ∀ (s : im_S) (hv : vI s), W_exact_17 s Q → ir gG rm_P L ys (d + 1) rm_p_X10_exact (17, [], [], s) (fun r : im_Re => ∃ z, r.1 = some (1, z) ∧ (vI r.2 ∧ lR z ∧ Q z r.2)) := by
    intro s hv hW
    unfold W_exact_17 at hW
    refine ir_k (pc' := 20) (v := (1, (-9000000000000000000))) rfl rfl rfl (fun _ => rfl) ?_
    exact ir_lret rfl rfl ⟨_, rfl, hv, (⟨by decide, by decide⟩ : lR (-9000000000000000000)), hW⟩
  unfold W_exact at hW
  refine ir_l (pc' := 1) rfl rfl rfl rfl rfl rfl ?_
  refine ir_l (pc' := 2) rfl rfl rfl rfl rfl rfl ?_
  refine ir_cVI (pc' := 5) rfl rfl rfl rfl rfl (Nat.le_of_ble_eq_true rfl) oo_X10_isRoot vg_582 (w_isRoot L ys d s hv l1 l1r _ hW) (fun z2 s1 hr => ?_)
  obtain ⟨s1v, z2r, hW⟩ := hr
  refine ir_z_eq (pt := 17) (pc' := 8) rfl rfl rfl (fun c3 => ?_) (fun c3 => ?_)
  · have hW := hW.1 c3
    refine ir_w [] trivial ?_
    exact J17 s1 s1v hW
  · have hW := hW.2 c3
    refine ir_l (pc' := 9) rfl rfl rfl rfl rfl rfl ?_
    refine ir_z_lt (pt := 17) (pc' := 12) rfl rfl rfl (fun c4 => ?_) (fun c4 => ?_)
    · have hW := hW.1 c4
      refine ir_w [] trivial ?_
      exact J17 s1 s1v hW
    · have hW := hW.2 c4
      refine ir_l (pc' := 13) rfl rfl rfl rfl rfl rfl ?_
      refine ir_k (pc' := 14) (v := (0, 1)) rfl rfl rfl (fun _ => rfl) ?_
      refine ir_c_le (pt := 21) (pc' := 17) rfl rfl rfl (fun c5 => ?_) (fun c5 => ?_)
      · have hW := hW.1 c5
        obtain ⟨h6, h8, hW⟩ := hW
        refine ir_l (pc' := 22) rfl rfl rfl rfl rfl rfl ?_
        refine ir_vgr (pc' := 25) (c := 614) rfl rfl rfl rfl rfl s1v ?_
        refine ir_l (pc' := 26) rfl rfl rfl rfl rfl rfl ?_
        refine ir_via (pc' := 27) rfl rfl vg_614 rfl (Nat.le_of_ble_eq_true rfl) s1v rfl h6 (fun r7 => ?_)
        refine ir_s (pc' := 28) rfl rfl rfl rfl rfl rfl ?_
        refine ir_l (pc' := 29) rfl rfl rfl rfl rfl rfl ?_
        refine ir_vgr (pc' := 32) (c := 609) rfl rfl rfl rfl rfl s1v ?_
        refine ir_l (pc' := 33) rfl rfl rfl rfl rfl rfl ?_
        refine ir_vla (pc' := 34) rfl rfl vg_609 rfl (Nat.le_of_ble_eq_true rfl) s1v rfl h8 (fun r9 => ?_)
        refine ir_k (pc' := 35) (v := (1, 0)) rfl rfl rfl (fun _ => rfl) ?_
        refine ir_lcmp (pc' := 36) rfl rfl r9.1 r9.2 (⟨by decide, by decide⟩ : lR 0).1 (⟨by decide, by decide⟩ : lR 0).2 (fun z10 z10c => ?_)
        have J212 : ∀ v211 : Int, lR v211 → ((Q v211 s1)) → ir gG rm_P L ys (d + 1) rm_p_X10_exact (64, [], [(1, v211)], s1) (fun r : im_Re => ∃ z, r.1 = some (1, z) ∧ (vI r.2 ∧ lR z ∧ Q z r.2)) := by
          intro v211 v211r hW
          exact ir_lret rfl rfl ⟨_, rfl, s1v, v211r, hW⟩
        refine ir_z_ne (pt := 45) (pc' := 39) rfl rfl rfl (fun c11 => ?_) (fun c11 => ?_)
        · have c11 : ¬ ((wga s1 609 (wga s1 614 l1)) = 0) := by omega
          refine ir_l (pc' := 46) rfl rfl rfl rfl rfl rfl ?_
          refine ir_z_ne (pt := 58) (pc' := 49) rfl rfl rfl (fun c12 => ?_) (fun c12 => ?_)
          · refine ir_l (pc' := 59) rfl rfl rfl rfl rfl rfl ?_
            refine ir_vgr (pc' := 62) (c := 609) rfl rfl rfl rfl rfl s1v ?_
            refine ir_l (pc' := 63) rfl rfl rfl rfl rfl rfl ?_
            refine ir_vla (pc' := 64) rfl rfl vg_609 rfl (Nat.le_of_ble_eq_true rfl) s1v rfl h8 (fun r13 => ?_)
            refine ir_w [] trivial ?_
            exact J212 (wga s1 609 (wga s1 614 l1)) r13 (hW _ (by rw [if_pos c11, if_pos c12]))
          · refine ir_l (pc' := 50) rfl rfl rfl rfl rfl rfl ?_
            refine ir_vgr (pc' := 53) (c := 608) rfl rfl rfl rfl rfl s1v ?_
            refine ir_l (pc' := 54) rfl rfl rfl rfl rfl rfl ?_
            refine ir_vla (pc' := 55) rfl rfl vg_608 rfl (Nat.le_of_ble_eq_true rfl) s1v rfl h8 (fun r14 => ?_)
            refine ir_goto (pc' := 64) rfl rfl ?_
            refine ir_w [] trivial ?_
            exact J212 (wga s1 608 (wga s1 614 l1)) r14 (hW _ (by rw [if_pos c11, if_neg (by omega)]))
        · have c11 : (wga s1 609 (wga s1 614 l1)) = 0 := by omega
          refine ir_k (pc' := 42) (v := (1, (-9000000000000000002))) rfl rfl rfl (fun _ => rfl) ?_
          refine ir_goto (pc' := 64) rfl rfl ?_
          refine ir_w [] trivial ?_
          exact J212 (-9000000000000000002) (⟨by decide, by decide⟩ : lR (-9000000000000000002)) (hW _ (by rw [if_neg (by omega)]))
      · have hW := hW.2 c5
        refine ir_w [] trivial ?_
        exact J17 s1 s1v hW
def W_isBefore_74 (K74 : im_S → Prop) (l1 : Int) (l2 : Int) (s : im_S) (Q : Int → im_S → Prop) : Prop := ((0 ≤ l1 ∧ l1 < 90) ∧ (0 ≤ l2 ∧ l2 < 90) ∧ (W_powerOfTwo (wga s 612 l2) s (fun z7 s6 => (W_by (wga s 611 l1) z7 s6 (fun z9 s8 => ((0 ≤ l2 ∧ l2 < 90) ∧ (0 ≤ l1 ∧ l1 < 90) ∧ (W_powerOfTwo (wga s8 612 l1) s8 (fun z15 s14 => (W_by (wga s8 611 l2) z15 s14 (fun z17 s16 => ((0 ≤ l2 ∧ l2 < 90) ∧ (W_powerOfTwo (wga s16 612 l2) s16 (fun z21 s20 => (W_plus z9 z21 s20 (fun z23 s22 => ((0 ≤ l1 ∧ l1 < 90) ∧ (W_powerOfTwo (wga s22 612 l1) s22 (fun z27 s26 => (W_plus z17 z27 s26 (fun z29 s28 => (W_compare z23 z17 s28 (fun z31 s30 => (W_compare z29 z9 s30 (fun z33 s32 => (∀ s34, s34 = wpf s32 24 (wgf s 24) → ((0 < z31 → ((0 < z33 → ((0 ≤ l1 ∧ l1 < 90) ∧ (0 ≤ l2 ∧ l2 < 90) ∧ (∀ v241 : Int, v241 = (if (wga s34 612 l2) < (wga s34 612 l1) then l2 else l1) → (W_refine v241 s34 (fun s243 => (K74 (s243))))))) ∧ (¬ (0 < z33) → (Q 0 s34)))) ∧ (¬ (0 < z31) → (Q 1 s34))))))))))))))))))))))))))))
def W_isBefore (l1 : Int) (l2 : Int) (s : im_S) (Q : Int → im_S → Prop) : Prop := ((0 ≤ l1 ∧ l1 < 90) ∧ (((wga s 609 l1) ≤ 0 → ((0 ≤ l2 ∧ l2 < 90) ∧ (((wga s 609 l2) ≤ 0 → (wloop (fun (K : im_S → Prop) (a : im_S) => W_isBefore_74 K l1 l2 a Q) (s))) ∧ (¬ ((wga s 609 l2) ≤ 0) → ((0 ≤ l2 ∧ l2 < 90) ∧ (W_against l1 (wga s 608 l2) (wga s 609 l2) s (fun z257 s256 => (∀ v458 : Int, v458 = (if 0 ≤ z257 then 0 else 1) → (Q v458 s256))))))))) ∧ (¬ ((wga s 609 l1) ≤ 0) → ((0 ≤ l1 ∧ l1 < 90) ∧ (W_against l2 (wga s 608 l1) (wga s 609 l1) s (fun z464 s463 => (∀ v665 : Int, v665 = (if z464 ≤ 0 then 0 else 1) → (Q v665 s463))))))))
set_option maxRecDepth 16384 in
theorem w_isBefore (L : Nat) (ys : Nat → Int32) (d : Nat) (s : im_S) (hv : vI s) (l1 : Int) (l1r : iR l1) (l2 : Int) (l2r : iR l2) (Q : Int → im_S → Prop) (hW : W_isBefore l1 l2 s Q) : icI gG rm_P L ys 0 (d + 8) 50 [(2, ((582 : Nat) : Int)), (0, l1), (0, l2)] s (fun z9 s9 => vI s9 ∧ zR z9 ∧ Q z9 s9) := by
  refine ic_startM (M := rm_p_X10_isBefore) om_X10_isBefore (Nat.le_of_ble_eq_true rfl) ?_
  refine ir_w [(0, (2, ((582 : Nat) : Int))), (1, (0, l1)), (2, (0, l2))] ⟨rfl, rfl, rfl, trivial⟩ ?_
  have J74 : ∀ (l1 : Int) (l1r : iR l1) (l2 : Int) (l2r : iR l2) (I74 : im_S → Prop) (r74 : im_S → Nat) (hB74 : ∀ a : im_S, I74 a → W_isBefore_74 (fun b => I74 b ∧ r74 b < r74 a) l1 l2 a Q), ∀ n74 : Nat, ∀ (s : im_S) (hv : vI s), I74 (s) → r74 (s) < n74 → ir gG rm_P L ys (d + 7) rm_p_X10_isBefore (74, [(0, (2, ((582 : Nat) : Int))), (1, (0, l1)), (2, (0, l2))], [], s) (fun r : im_Re => ∃ z, r.1 = some (0, z) ∧ (vI r.2 ∧ zR z ∧ Q z r.2)) := by
    intro l1 l1r l2 l2r I74 r74 hB74 n74
    induction n74 with
    | zero => intro s hv hI hr; exact absurd hr (Nat.not_lt_zero _)
    | succ n74 ih74 =>
      intro s hv hI hr74
      obtain ⟨t74, ht74⟩ : ∃ t74 : im_S, t74 = (s) := ⟨_, rfl⟩
      rw [← ht74] at hr74
      have hW : W_isBefore_74 (fun b => I74 b ∧ r74 b < r74 t74) l1 l2 s Q := by have z := hB74 (s) hI; rw [ht74]; exact z
      unfold W_isBefore_74 at hW
      obtain ⟨h2, h4, hW⟩ := hW
      refine ir_l (pc' := 75) rfl rfl rfl rfl rfl rfl ?_
      refine ir_vgi (pc' := 78) rfl rfl rfl rfl rfl hv (fun r1 => ?_)
      refine ir_s (pc' := 79) rfl rfl rfl rfl rfl rfl ?_
      refine ir_l (pc' := 80) rfl rfl rfl rfl rfl rfl ?_
      refine ir_l (pc' := 81) rfl rfl rfl rfl rfl rfl ?_
      refine ir_vgr (pc' := 84) (c := 611) rfl rfl rfl rfl rfl hv ?_
      refine ir_l (pc' := 85) rfl rfl rfl rfl rfl rfl ?_
      refine ir_via (pc' := 86) rfl rfl vg_611 rfl (Nat.le_of_ble_eq_true rfl) hv rfl h2 (fun r3 => ?_)
      refine ir_l (pc' := 87) rfl rfl rfl rfl rfl rfl ?_
      refine ir_l (pc' := 88) rfl rfl rfl rfl rfl rfl ?_
      refine ir_vgr (pc' := 91) (c := 612) rfl rfl rfl rfl rfl hv ?_
      refine ir_l (pc' := 92) rfl rfl rfl rfl rfl rfl ?_
      refine ir_via (pc' := 93) rfl rfl vg_612 rfl (Nat.le_of_ble_eq_true rfl) hv rfl h4 (fun r5 => ?_)
      refine ir_cVI (pc' := 96) rfl rfl rfl rfl rfl (Nat.le_of_ble_eq_true rfl) oo_X10_powerOfTwo vg_582 (w_powerOfTwo L ys (d + 3) s hv (wga s 612 l2) r5 _ hW) (fun z7 s6 hr => ?_)
      obtain ⟨s6v, z7r, hW⟩ := hr
      refine ir_cVI (pc' := 99) rfl rfl rfl rfl rfl (Nat.le_of_ble_eq_true rfl) oo_X10_by vg_582 (w_by L ys (d + 5) s6 s6v (wga s 611 l1) r3 z7 z7r _ hW) (fun z9 s8 hr => ?_)
      obtain ⟨s8v, z9r, hW⟩ := hr
      obtain ⟨h10, h12, hW⟩ := hW
      refine ir_s (pc' := 101) rfl rfl rfl rfl rfl rfl ?_
      refine ir_l (pc' := 102) rfl rfl rfl rfl rfl rfl ?_
      refine ir_l (pc' := 103) rfl rfl rfl rfl rfl rfl ?_
      refine ir_vgr (pc' := 106) (c := 611) rfl rfl rfl rfl rfl s8v ?_
      refine ir_l (pc' := 107) rfl rfl rfl rfl rfl rfl ?_
      refine ir_via (pc' := 108) rfl rfl vg_611 rfl (Nat.le_of_ble_eq_true rfl) s8v rfl h10 (fun r11 => ?_)
      refine ir_l (pc' := 109) rfl rfl rfl rfl rfl rfl ?_
      refine ir_l (pc' := 110) rfl rfl rfl rfl rfl rfl ?_
      refine ir_vgr (pc' := 113) (c := 612) rfl rfl rfl rfl rfl s8v ?_
      refine ir_l (pc' := 114) rfl rfl rfl rfl rfl rfl ?_
      refine ir_via (pc' := 115) rfl rfl vg_612 rfl (Nat.le_of_ble_eq_true rfl) s8v rfl h12 (fun r13 => ?_)
      refine ir_cVI (pc' := 118) rfl rfl rfl rfl rfl (Nat.le_of_ble_eq_true rfl) oo_X10_powerOfTwo vg_582 (w_powerOfTwo L ys (d + 3) s8 s8v (wga s8 612 l1) r13 _ hW) (fun z15 s14 hr => ?_)
      obtain ⟨s14v, z15r, hW⟩ := hr
      refine ir_cVI (pc' := 121) rfl rfl rfl rfl rfl (Nat.le_of_ble_eq_true rfl) oo_X10_by vg_582 (w_by L ys (d + 5) s14 s14v (wga s8 611 l2) r11 z15 z15r _ hW) (fun z17 s16 hr => ?_)
      obtain ⟨s16v, z17r, hW⟩ := hr
      obtain ⟨h18, hW⟩ := hW
      refine ir_s (pc' := 123) rfl rfl rfl rfl rfl rfl ?_
      refine ir_l (pc' := 124) rfl rfl rfl rfl rfl rfl ?_
      refine ir_l (pc' := 126) rfl rfl rfl rfl rfl rfl ?_
      refine ir_l (pc' := 127) rfl rfl rfl rfl rfl rfl ?_
      refine ir_l (pc' := 128) rfl rfl rfl rfl rfl rfl ?_
      refine ir_vgr (pc' := 131) (c := 612) rfl rfl rfl rfl rfl s16v ?_
      refine ir_l (pc' := 132) rfl rfl rfl rfl rfl rfl ?_
      refine ir_via (pc' := 133) rfl rfl vg_612 rfl (Nat.le_of_ble_eq_true rfl) s16v rfl h18 (fun r19 => ?_)
      refine ir_cVI (pc' := 136) rfl rfl rfl rfl rfl (Nat.le_of_ble_eq_true rfl) oo_X10_powerOfTwo vg_582 (w_powerOfTwo L ys (d + 3) s16 s16v (wga s16 612 l2) r19 _ hW) (fun z21 s20 hr => ?_)
      obtain ⟨s20v, z21r, hW⟩ := hr
      refine ir_cVI (pc' := 139) rfl rfl rfl rfl rfl (Nat.le_of_ble_eq_true rfl) oo_X10_plus vg_582 (w_plus L ys (d + 3) s20 s20v z9 z9r z21 z21r _ hW) (fun z23 s22 hr => ?_)
      obtain ⟨s22v, z23r, hW⟩ := hr
      obtain ⟨h24, hW⟩ := hW
      refine ir_s (pc' := 141) rfl rfl rfl rfl rfl rfl ?_
      refine ir_l (pc' := 142) rfl rfl rfl rfl rfl rfl ?_
      refine ir_l (pc' := 144) rfl rfl rfl rfl rfl rfl ?_
      refine ir_l (pc' := 145) rfl rfl rfl rfl rfl rfl ?_
      refine ir_l (pc' := 146) rfl rfl rfl rfl rfl rfl ?_
      refine ir_vgr (pc' := 149) (c := 612) rfl rfl rfl rfl rfl s22v ?_
      refine ir_l (pc' := 150) rfl rfl rfl rfl rfl rfl ?_
      refine ir_via (pc' := 151) rfl rfl vg_612 rfl (Nat.le_of_ble_eq_true rfl) s22v rfl h24 (fun r25 => ?_)
      refine ir_cVI (pc' := 154) rfl rfl rfl rfl rfl (Nat.le_of_ble_eq_true rfl) oo_X10_powerOfTwo vg_582 (w_powerOfTwo L ys (d + 3) s22 s22v (wga s22 612 l1) r25 _ hW) (fun z27 s26 hr => ?_)
      obtain ⟨s26v, z27r, hW⟩ := hr
      refine ir_cVI (pc' := 157) rfl rfl rfl rfl rfl (Nat.le_of_ble_eq_true rfl) oo_X10_plus vg_582 (w_plus L ys (d + 3) s26 s26v z17 z17r z27 z27r _ hW) (fun z29 s28 hr => ?_)
      obtain ⟨s28v, z29r, hW⟩ := hr
      refine ir_s (pc' := 159) rfl rfl rfl rfl rfl rfl ?_
      refine ir_l (pc' := 160) rfl rfl rfl rfl rfl rfl ?_
      refine ir_l (pc' := 162) rfl rfl rfl rfl rfl rfl ?_
      refine ir_l (pc' := 164) rfl rfl rfl rfl rfl rfl ?_
      refine ir_cVI (pc' := 167) rfl rfl rfl rfl rfl (Nat.le_of_ble_eq_true rfl) oo_X10_compare vg_582 (w_compare L ys (d + 4) s28 s28v z23 z23r z17 z17r _ hW) (fun z31 s30 hr => ?_)
      obtain ⟨s30v, z31r, hW⟩ := hr
      refine ir_s (pc' := 169) rfl rfl rfl rfl rfl rfl ?_
      refine ir_l (pc' := 170) rfl rfl rfl rfl rfl rfl ?_
      refine ir_l (pc' := 172) rfl rfl rfl rfl rfl rfl ?_
      refine ir_l (pc' := 174) rfl rfl rfl rfl rfl rfl ?_
      refine ir_cVI (pc' := 177) rfl rfl rfl rfl rfl (Nat.le_of_ble_eq_true rfl) oo_X10_compare vg_582 (w_compare L ys (d + 4) s30 s30v z29 z29r z9 z9r _ hW) (fun z33 s32 hr => ?_)
      obtain ⟨s32v, z33r, hW⟩ := hr
      refine ir_s (pc' := 179) rfl rfl rfl rfl rfl rfl ?_
      refine ir_l (pc' := 180) rfl rfl rfl rfl rfl rfl ?_
      refine ir_l (pc' := 181) rfl rfl rfl rfl rfl rfl ?_
      refine ir_vpi (pc' := 184) rfl rfl rfl rfl rfl rfl rfl s32v r1 (fun s34 s34e s34v => ?_)
      have hW := hW s34 s34e
      refine ir_l (pc' := 186) rfl rfl rfl rfl rfl rfl ?_
      refine ir_z_gt (pt := 191) (pc' := 189) rfl rfl rfl (fun c35 => ?_) (fun c35 => ?_)
      · have hW := hW.1 c35
        refine ir_l (pc' := 193) rfl rfl rfl rfl rfl rfl ?_
        refine ir_z_gt (pt := 198) (pc' := 196) rfl rfl rfl (fun c36 => ?_) (fun c36 => ?_)
        · have hW := hW.1 c36
          obtain ⟨h37, h39, hW⟩ := hW
          refine ir_l (pc' := 199) rfl rfl rfl rfl rfl rfl ?_
          refine ir_l (pc' := 200) rfl rfl rfl rfl rfl rfl ?_
          refine ir_vgr (pc' := 203) (c := 612) rfl rfl rfl rfl rfl s34v ?_
          refine ir_l (pc' := 204) rfl rfl rfl rfl rfl rfl ?_
          refine ir_via (pc' := 205) rfl rfl vg_612 rfl (Nat.le_of_ble_eq_true rfl) s34v rfl h37 (fun r38 => ?_)
          refine ir_l (pc' := 206) rfl rfl rfl rfl rfl rfl ?_
          refine ir_vgr (pc' := 209) (c := 612) rfl rfl rfl rfl rfl s34v ?_
          refine ir_l (pc' := 210) rfl rfl rfl rfl rfl rfl ?_
          refine ir_via (pc' := 211) rfl rfl vg_612 rfl (Nat.le_of_ble_eq_true rfl) s34v rfl h39 (fun r40 => ?_)
          have J242 : ∀ v241 : Int, iR v241 → ((W_refine v241 s34 (fun s243 => ((fun b => I74 b ∧ r74 b < r74 t74) (s243))))) → ir gG rm_P L ys (d + 7) rm_p_X10_isBefore (219, [(0, (2, ((582 : Nat) : Int))), (1, (0, l1)), (2, (0, l2))], [(0, v241), (2, ((582 : Nat) : Int))], s34) (fun r : im_Re => ∃ z, r.1 = some (0, z) ∧ (vI r.2 ∧ zR z ∧ Q z r.2)) := by
            intro v241 v241r hW
            refine ir_cVV (pc' := 222) rfl rfl rfl rfl rfl (Nat.le_of_ble_eq_true rfl) oo_X10_refine vg_582 (w_refine L ys (d + 1) s34 s34v v241 v241r _ hW) (fun s243 hr => ?_)
            obtain ⟨s243v, hW⟩ := hr
            refine ir_goto (pc' := 74) rfl rfl ?_
            refine ir_w [(0, (2, ((582 : Nat) : Int))), (1, (0, l1)), (2, (0, l2))] ⟨rfl, rfl, rfl, trivial⟩ ?_
            exact ih74 s243 s243v hW.1 (Nat.lt_of_lt_of_le hW.2 (Nat.le_of_lt_succ hr74))
          refine ir_c_gt (pt := 218) (pc' := 214) rfl rfl rfl (fun c41 => ?_) (fun c41 => ?_)
          · refine ir_l (pc' := 219) rfl rfl rfl rfl rfl rfl ?_
            refine ir_w [(0, (2, ((582 : Nat) : Int))), (1, (0, l1)), (2, (0, l2))] ⟨rfl, rfl, rfl, trivial⟩ ?_
            exact J242 l2 l2r (hW _ (by rw [if_pos c41]))
          · refine ir_l (pc' := 215) rfl rfl rfl rfl rfl rfl ?_
            refine ir_goto (pc' := 219) rfl rfl ?_
            refine ir_w [(0, (2, ((582 : Nat) : Int))), (1, (0, l1)), (2, (0, l2))] ⟨rfl, rfl, rfl, trivial⟩ ?_
            exact J242 l1 l1r (hW _ (by rw [if_neg (fun z => c41 z)]))
        · have hW := hW.2 c36
          refine ir_k (pc' := 197) (v := (0, 0)) rfl rfl rfl (fun _ => rfl) ?_
          exact ir_zret rfl rfl (Or.inl rfl) ⟨_, rfl, s34v, (Or.inl rfl), hW⟩
      · have hW := hW.2 c35
        refine ir_k (pc' := 190) (v := (0, 1)) rfl rfl rfl (fun _ => rfl) ?_
        exact ir_zret rfl rfl (Or.inr rfl) ⟨_, rfl, s34v, (Or.inr rfl), hW⟩
  unfold W_isBefore at hW
  obtain ⟨h245, hW⟩ := hW
  refine ir_l (pc' := 1) rfl rfl rfl rfl rfl rfl ?_
  refine ir_vgr (pc' := 4) (c := 609) rfl rfl rfl rfl rfl hv ?_
  refine ir_l (pc' := 5) rfl rfl rfl rfl rfl rfl ?_
  refine ir_vla (pc' := 6) rfl rfl vg_609 rfl (Nat.le_of_ble_eq_true rfl) hv rfl h245 (fun r246 => ?_)
  refine ir_k (pc' := 7) (v := (1, 0)) rfl rfl rfl (fun _ => rfl) ?_
  refine ir_lcmp (pc' := 8) rfl rfl r246.1 r246.2 (⟨by decide, by decide⟩ : lR 0).1 (⟨by decide, by decide⟩ : lR 0).2 (fun z247 z247c => ?_)
  refine ir_z_le (pt := 37) (pc' := 11) rfl rfl rfl (fun c248 => ?_) (fun c248 => ?_)
  · have c248 : (wga s 609 l1) ≤ 0 := by omega
    have hW := hW.1 c248
    obtain ⟨h249, hW⟩ := hW
    refine ir_l (pc' := 38) rfl rfl rfl rfl rfl rfl ?_
    refine ir_vgr (pc' := 41) (c := 609) rfl rfl rfl rfl rfl hv ?_
    refine ir_l (pc' := 42) rfl rfl rfl rfl rfl rfl ?_
    refine ir_vla (pc' := 43) rfl rfl vg_609 rfl (Nat.le_of_ble_eq_true rfl) hv rfl h249 (fun r250 => ?_)
    refine ir_k (pc' := 44) (v := (1, 0)) rfl rfl rfl (fun _ => rfl) ?_
    refine ir_lcmp (pc' := 45) rfl rfl r250.1 r250.2 (⟨by decide, by decide⟩ : lR 0).1 (⟨by decide, by decide⟩ : lR 0).2 (fun z251 z251c => ?_)
    refine ir_z_le (pt := 74) (pc' := 48) rfl rfl rfl (fun c252 => ?_) (fun c252 => ?_)
    · have c252 : (wga s 609 l2) ≤ 0 := by omega
      have hW := hW.1 c252
      refine ir_w [(0, (2, ((582 : Nat) : Int))), (1, (0, l1)), (2, (0, l2))] ⟨rfl, rfl, rfl, trivial⟩ ?_
      obtain ⟨I9, r9, hI9, hB9⟩ := hW
      exact J74 l1 l1r l2 l2r I9 r9 hB9 _ s hv hI9 (Nat.lt_succ_self _)
    · have c252 : ¬ ((wga s 609 l2) ≤ 0) := by omega
      have hW := hW.2 c252
      obtain ⟨h253, hW⟩ := hW
      refine ir_l (pc' := 49) rfl rfl rfl rfl rfl rfl ?_
      refine ir_l (pc' := 50) rfl rfl rfl rfl rfl rfl ?_
      refine ir_l (pc' := 51) rfl rfl rfl rfl rfl rfl ?_
      refine ir_vgr (pc' := 54) (c := 608) rfl rfl rfl rfl rfl hv ?_
      refine ir_l (pc' := 55) rfl rfl rfl rfl rfl rfl ?_
      refine ir_vla (pc' := 56) rfl rfl vg_608 rfl (Nat.le_of_ble_eq_true rfl) hv rfl h253 (fun r254 => ?_)
      refine ir_l (pc' := 57) rfl rfl rfl rfl rfl rfl ?_
      refine ir_vgr (pc' := 60) (c := 609) rfl rfl rfl rfl rfl hv ?_
      refine ir_l (pc' := 61) rfl rfl rfl rfl rfl rfl ?_
      refine ir_vla (pc' := 62) rfl rfl vg_609 rfl (Nat.le_of_ble_eq_true rfl) hv rfl h253 (fun r255 => ?_)
      refine ir_cVI (pc' := 65) rfl rfl rfl rfl rfl (Nat.le_of_ble_eq_true rfl) oo_X10_against vg_582 (w_against L ys d s hv l1 l1r (wga s 608 l2) r254 (wga s 609 l2) r255 _ hW) (fun z257 s256 hr => ?_)
      obtain ⟨s256v, z257r, hW⟩ := hr
      have J459 : ∀ v458 : Int, zR v458 → ((Q v458 s256)) → ir gG rm_P L ys (d + 7) rm_p_X10_isBefore (73, [], [(0, v458)], s256) (fun r : im_Re => ∃ z, r.1 = some (0, z) ∧ (vI r.2 ∧ zR z ∧ Q z r.2)) := by
        intro v458 v458r hW
        exact ir_zret rfl rfl v458r ⟨_, rfl, s256v, v458r, hW⟩
      refine ir_z_ge (pt := 72) (pc' := 68) rfl rfl rfl (fun c258 => ?_) (fun c258 => ?_)
      · refine ir_k (pc' := 73) (v := (0, 0)) rfl rfl rfl (fun _ => rfl) ?_
        refine ir_w [] trivial ?_
        exact J459 0 (Or.inl rfl) (hW _ (by rw [if_pos c258]))
      · refine ir_k (pc' := 69) (v := (0, 1)) rfl rfl rfl (fun _ => rfl) ?_
        refine ir_goto (pc' := 73) rfl rfl ?_
        refine ir_w [] trivial ?_
        exact J459 1 (Or.inr rfl) (hW _ (by rw [if_neg (fun z => c258 z)]))
  · have c248 : ¬ ((wga s 609 l1) ≤ 0) := by omega
    have hW := hW.2 c248
    obtain ⟨h460, hW⟩ := hW
    refine ir_l (pc' := 12) rfl rfl rfl rfl rfl rfl ?_
    refine ir_l (pc' := 13) rfl rfl rfl rfl rfl rfl ?_
    refine ir_l (pc' := 14) rfl rfl rfl rfl rfl rfl ?_
    refine ir_vgr (pc' := 17) (c := 608) rfl rfl rfl rfl rfl hv ?_
    refine ir_l (pc' := 18) rfl rfl rfl rfl rfl rfl ?_
    refine ir_vla (pc' := 19) rfl rfl vg_608 rfl (Nat.le_of_ble_eq_true rfl) hv rfl h460 (fun r461 => ?_)
    refine ir_l (pc' := 20) rfl rfl rfl rfl rfl rfl ?_
    refine ir_vgr (pc' := 23) (c := 609) rfl rfl rfl rfl rfl hv ?_
    refine ir_l (pc' := 24) rfl rfl rfl rfl rfl rfl ?_
    refine ir_vla (pc' := 25) rfl rfl vg_609 rfl (Nat.le_of_ble_eq_true rfl) hv rfl h460 (fun r462 => ?_)
    refine ir_cVI (pc' := 28) rfl rfl rfl rfl rfl (Nat.le_of_ble_eq_true rfl) oo_X10_against vg_582 (w_against L ys d s hv l2 l2r (wga s 608 l1) r461 (wga s 609 l1) r462 _ hW) (fun z464 s463 hr => ?_)
    obtain ⟨s463v, z464r, hW⟩ := hr
    have J666 : ∀ v665 : Int, zR v665 → ((Q v665 s463)) → ir gG rm_P L ys (d + 7) rm_p_X10_isBefore (36, [], [(0, v665)], s463) (fun r : im_Re => ∃ z, r.1 = some (0, z) ∧ (vI r.2 ∧ zR z ∧ Q z r.2)) := by
      intro v665 v665r hW
      exact ir_zret rfl rfl v665r ⟨_, rfl, s463v, v665r, hW⟩
    refine ir_z_le (pt := 35) (pc' := 31) rfl rfl rfl (fun c465 => ?_) (fun c465 => ?_)
    · refine ir_k (pc' := 36) (v := (0, 0)) rfl rfl rfl (fun _ => rfl) ?_
      refine ir_w [] trivial ?_
      exact J666 0 (Or.inl rfl) (hW _ (by rw [if_pos c465]))
    · refine ir_k (pc' := 32) (v := (0, 1)) rfl rfl rfl (fun _ => rfl) ?_
      refine ir_goto (pc' := 36) rfl rfl ?_
      refine ir_w [] trivial ?_
      exact J666 1 (Or.inr rfl) (hW _ (by rw [if_neg (fun z => c465 z)]))
def W_isSo_212 (K4 : Int × Int × im_S → Prop) (l1 : Int) (l2 : Int) (l3 : Int) (s : im_S) (Q : Int → im_S → Prop) : Prop := ((iR (l3 + 1)) ∧ (K4 (l2, (l3 + 1), s)))
def W_isSo_4 (K4 : Int × Int × im_S → Prop) (l1 : Int) (l2 : Int) (l3 : Int) (s : im_S) (Q : Int → im_S → Prop) : Prop := (((wgf s 10) ≤ l3 → ((0 ≤ (0 : Int) ∧ (0 : Int) < 400) ∧ (Q (wga s 588 0) s))) ∧ (¬ ((wgf s 10) ≤ l3) → ((0 ≤ l3 ∧ l3 < 500) ∧ (((wga s 586 l3) < 0 → ((¬ ((wga s 586 l3) = (-1)) → ((iR (l2 + (-1))) ∧ (iR ((l2 + (-1)) - 1)) ∧ (¬ ((wga s 586 l3) = (-2)) → (0 ≤ ((l2 + (-1)) - 1) ∧ ((l2 + (-1)) - 1) < 400)) ∧ (¬ ((wga s 586 l3) = (-2)) → (wga s 588 ((l2 + (-1)) - 1)) = 0 → (0 ≤ (l2 + (-1)) ∧ (l2 + (-1)) < 400)) ∧ ((wga s 586 l3) = (-2) → (0 ≤ ((l2 + (-1)) - 1) ∧ ((l2 + (-1)) - 1) < 400)) ∧ ((wga s 586 l3) = (-2) → ¬ ((wga s 588 ((l2 + (-1)) - 1)) = 0) → (0 ≤ (l2 + (-1)) ∧ (l2 + (-1)) < 400)) ∧ (∀ v212 : Int, v212 = (if ¬ ((wga s 586 l3) = (-2)) then (if ¬ ((wga s 588 ((l2 + (-1)) - 1)) = 0) then 1 else (if (wga s 588 (l2 + (-1))) = 0 then 0 else 1)) else (if (wga s 588 ((l2 + (-1)) - 1)) = 0 then 0 else (if (wga s 588 (l2 + (-1))) = 0 then 0 else 1))) → ((0 ≤ ((l2 + (-1)) - 1) ∧ ((l2 + (-1)) - 1) < 400) ∧ (∀ s215, s215 = wpa s 588 ((l2 + (-1)) - 1) v212 → (W_isSo_212 K4 l1 (l2 + (-1)) l3 s215 Q)))))) ∧ ((wga s 586 l3) = (-1) → ((0 ≤ (l2 - 1) ∧ (l2 - 1) < 400) ∧ (∀ v419 : Int, v419 = (if ¬ ((wga s 588 (l2 - 1)) = 0) then 0 else 1) → ((0 ≤ (l2 - 1) ∧ (l2 - 1) < 400) ∧ (∀ s422, s422 = wpa s 588 (l2 - 1) v419 → (W_isSo_212 K4 l1 l2 l3 s422 Q)))))))) ∧ (¬ ((wga s 586 l3) < 0) → ((iR (10 * l1)) ∧ (0 ≤ ((10 * l1) + (wga s 586 l3)) ∧ ((10 * l1) + (wga s 586 l3)) < 2000) ∧ (0 ≤ (wga s 586 l3) ∧ (wga s 586 l3) < 10) ∧ (∀ v629 : Int, v629 = (if ¬ ((wga s 585 (wga s 586 l3)) = 0) then (if ¬ ((wga s 585 (wga s 586 l3)) = 1) then (if (wga s 617 ((10 * l1) + (wga s 586 l3))) ≤ 0 then 0 else 1) else (if 0 ≤ (wga s 617 ((10 * l1) + (wga s 586 l3))) then 0 else 1)) else (if ¬ ((wga s 617 ((10 * l1) + (wga s 586 l3))) = 0) then 0 else 1)) → ((0 ≤ l2 ∧ l2 < 400) ∧ (∀ s632, s632 = wpa s 588 l2 v629 → ((iR (l2 + 1)) ∧ (W_isSo_212 K4 l1 (l2 + 1) l3 s632 Q)))))))))))
def W_isSo (l1 : Int) (s : im_S) (Q : Int → im_S → Prop) : Prop := (wloop (fun (K : Int × Int × im_S → Prop) (a : Int × Int × im_S) => W_isSo_4 K l1 a.1 a.2.1 a.2.2 Q) (0, 0, s))
set_option maxRecDepth 16384 in
theorem w_isSo (L : Nat) (ys : Nat → Int32) (d : Nat) (s : im_S) (hv : vI s) (l1 : Int) (l1r : iR l1) (Q : Int → im_S → Prop) (hW : W_isSo l1 s Q) : icI gG rm_P L ys 0 (d + 1) 57 [(2, ((582 : Nat) : Int)), (0, l1)] s (fun z9 s9 => vI s9 ∧ zR z9 ∧ Q z9 s9) := by
  refine ic_startM (M := rm_p_X10_isSo) om_X10_isSo (Nat.le_of_ble_eq_true rfl) ?_
  refine ir_w [(0, (2, ((582 : Nat) : Int))), (1, (0, l1))] ⟨rfl, rfl, trivial⟩ ?_
  have J4 : ∀ (l1 : Int) (l1r : iR l1) (I4 : Int × Int × im_S → Prop) (r4 : Int × Int × im_S → Nat) (hB4 : ∀ a : Int × Int × im_S, I4 a → W_isSo_4 (fun b => I4 b ∧ r4 b < r4 a) l1 a.1 a.2.1 a.2.2 Q), ∀ n4 : Nat, ∀ (l2 : Int) (l2r : iR l2) (l3 : Int) (l3r : iR l3) (s : im_S) (hv : vI s), I4 (l2, l3, s) → r4 (l2, l3, s) < n4 → ir gG rm_P L ys d rm_p_X10_isSo (4, [(0, (2, ((582 : Nat) : Int))), (1, (0, l1)), (2, (0, l2)), (3, (0, l3))], [], s) (fun r : im_Re => ∃ z, r.1 = some (0, z) ∧ (vI r.2 ∧ zR z ∧ Q z r.2)) := by
    intro l1 l1r I4 r4 hB4 n4
    induction n4 with
    | zero => intro l2 l2r l3 l3r s hv hI hr; exact absurd hr (Nat.not_lt_zero _)
    | succ n4 ih4 =>
      intro l2 l2r l3 l3r s hv hI hr4
      obtain ⟨t4, ht4⟩ : ∃ t4 : Int × Int × im_S, t4 = (l2, l3, s) := ⟨_, rfl⟩
      rw [← ht4] at hr4
      have hW : W_isSo_4 (fun b => I4 b ∧ r4 b < r4 t4) l1 l2 l3 s Q := by have z := hB4 (l2, l3, s) hI; rw [ht4]; exact z
      have J212 : ∀ (l2 : Int) (l2r : iR l2) (l3 : Int) (l3r : iR l3) (s : im_S) (hv : vI s), W_isSo_212 (fun b => I4 b ∧ r4 b < r4 t4) l1 l2 l3 s Q → ir gG rm_P L ys d rm_p_X10_isSo (212, [(0, (2, ((582 : Nat) : Int))), (1, (0, l1)), (2, (0, l2)), (3, (0, l3))], [], s) (fun r : im_Re => ∃ z, r.1 = some (0, z) ∧ (vI r.2 ∧ zR z ∧ Q z r.2)) := by
        intro l2 l2r l3 l3r s hv hW
        unfold W_isSo_212 at hW
        obtain ⟨h1, hW⟩ := hW
        refine ir_inc (pc' := 215) rfl rfl rfl rfl rfl h1.1 h1.2 ?_
        refine ir_goto (pc' := 4) rfl rfl ?_
        refine ir_w [(0, (2, ((582 : Nat) : Int))), (1, (0, l1)), (2, (0, l2)), (3, (0, (l3 + 1)))] ⟨rfl, rfl, rfl, rfl, trivial⟩ ?_
        exact ih4 l2 l2r (l3 + 1) h1 s hv hW.1 (Nat.lt_of_lt_of_le hW.2 (Nat.le_of_lt_succ hr4))
      unfold W_isSo_4 at hW
      refine ir_l (pc' := 5) rfl rfl rfl rfl rfl rfl ?_
      refine ir_l (pc' := 6) rfl rfl rfl rfl rfl rfl ?_
      refine ir_vgi (pc' := 9) rfl rfl rfl rfl rfl hv (fun r2 => ?_)
      refine ir_c_ge (pt := 218) (pc' := 12) rfl rfl rfl (fun c3 => ?_) (fun c3 => ?_)
      · have hW := hW.1 c3
        obtain ⟨h4, hW⟩ := hW
        refine ir_l (pc' := 219) rfl rfl rfl rfl rfl rfl ?_
        refine ir_vgr (pc' := 222) (c := 588) rfl rfl rfl rfl rfl hv ?_
        refine ir_k (pc' := 223) (v := (0, 0)) rfl rfl rfl (fun _ => rfl) ?_
        refine ir_vba (pc' := 224) rfl rfl vg_588 rfl (Nat.le_of_ble_eq_true rfl) hv rfl h4 (fun r5 => ?_)
        exact ir_zret rfl rfl r5 ⟨_, rfl, hv, r5, hW⟩
      · have hW := hW.2 c3
        obtain ⟨h6, hW⟩ := hW
        refine ir_l (pc' := 13) rfl rfl rfl rfl rfl rfl ?_
        refine ir_vgr (pc' := 16) (c := 586) rfl rfl rfl rfl rfl hv ?_
        refine ir_l (pc' := 17) rfl rfl rfl rfl rfl rfl ?_
        refine ir_via (pc' := 18) rfl rfl vg_586 rfl (Nat.le_of_ble_eq_true rfl) hv rfl h6 (fun r7 => ?_)
        refine ir_s (pc' := 20) rfl rfl rfl rfl rfl rfl ?_
        refine ir_l (pc' := 22) rfl rfl rfl rfl rfl rfl ?_
        refine ir_z_lt (pt := 108) (pc' := 25) rfl rfl rfl (fun c8 => ?_) (fun c8 => ?_)
        · have hW := hW.1 c8
          refine ir_l (pc' := 110) rfl rfl rfl rfl rfl rfl ?_
          refine ir_k (pc' := 111) (v := (0, (-1))) rfl rfl rfl (fun _ => rfl) ?_
          refine ir_c_ne (pt := 141) (pc' := 114) rfl rfl rfl (fun c9 => ?_) (fun c9 => ?_)
          · have hW := hW.1 c9
            obtain ⟨h10, h11, h13, h16, h19, h22, hW⟩ := hW
            refine ir_inc (pc' := 144) rfl rfl rfl rfl rfl h10.1 h10.2 ?_
            refine ir_l (pc' := 145) rfl rfl rfl rfl rfl rfl ?_
            refine ir_vgr (pc' := 148) (c := 588) rfl rfl rfl rfl rfl hv ?_
            refine ir_l (pc' := 149) rfl rfl rfl rfl rfl rfl ?_
            refine ir_k (pc' := 150) (v := (0, 1)) rfl rfl rfl (fun _ => rfl) ?_
            refine ir_sub (pc' := 151) rfl rfl h11.1 h11.2 ?_
            refine ir_l (pc' := 153) rfl rfl rfl rfl rfl rfl ?_
            refine ir_k (pc' := 155) (v := (0, (-2))) rfl rfl rfl (fun _ => rfl) ?_
            have J213 : ∀ v212 : Int, zR v212 → (((0 ≤ ((l2 + (-1)) - 1) ∧ ((l2 + (-1)) - 1) < 400) ∧ (∀ s215, s215 = wpa s 588 ((l2 + (-1)) - 1) v212 → (W_isSo_212 (fun b => I4 b ∧ r4 b < r4 t4) l1 (l2 + (-1)) l3 s215 Q)))) → ir gG rm_P L ys d rm_p_X10_isSo (211, [(0, (2, ((582 : Nat) : Int))), (1, (0, l1)), (2, (0, (l2 + (-1)))), (3, (0, l3))], [(0, v212), (0, ((l2 + (-1)) - 1)), (2, ((588 : Nat) : Int))], s) (fun r : im_Re => ∃ z, r.1 = some (0, z) ∧ (vI r.2 ∧ zR z ∧ Q z r.2)) := by
              intro v212 v212r hW
              obtain ⟨h214, hW⟩ := hW
              refine ir_vbs (pc' := 212) rfl rfl vg_588 rfl (Nat.le_of_ble_eq_true rfl) hv rfl h214 v212r (fun s215 s215e s215v => ?_)
              have hW := hW s215 s215e
              refine ir_w [(0, (2, ((582 : Nat) : Int))), (1, (0, l1)), (2, (0, (l2 + (-1)))), (3, (0, l3))] ⟨rfl, rfl, rfl, rfl, trivial⟩ ?_
              exact J212 (l2 + (-1)) h10 l3 l3r s215 s215v hW
            refine ir_c_ne (pt := 186) (pc' := 158) rfl rfl rfl (fun c12 => ?_) (fun c12 => ?_)
            · refine ir_l (pc' := 187) rfl rfl rfl rfl rfl rfl ?_
              refine ir_vgr (pc' := 190) (c := 588) rfl rfl rfl rfl rfl hv ?_
              refine ir_l (pc' := 191) rfl rfl rfl rfl rfl rfl ?_
              refine ir_k (pc' := 192) (v := (0, 1)) rfl rfl rfl (fun _ => rfl) ?_
              refine ir_sub (pc' := 193) rfl rfl h11.1 h11.2 ?_
              refine ir_vba (pc' := 194) rfl rfl vg_588 rfl (Nat.le_of_ble_eq_true rfl) hv rfl (h13 c12) (fun r14 => ?_)
              refine ir_z_ne (pt := 206) (pc' := 197) rfl rfl rfl (fun c15 => ?_) (fun c15 => ?_)
              · refine ir_k (pc' := 207) (v := (0, 1)) rfl rfl rfl (fun _ => rfl) ?_
                refine ir_goto (pc' := 211) rfl rfl ?_
                refine ir_w [(0, (2, ((582 : Nat) : Int))), (1, (0, l1)), (2, (0, (l2 + (-1)))), (3, (0, l3))] ⟨rfl, rfl, rfl, rfl, trivial⟩ ?_
                exact J213 1 (Or.inr rfl) (hW _ (by rw [if_pos c12, if_pos c15]))
              · refine ir_l (pc' := 198) rfl rfl rfl rfl rfl rfl ?_
                refine ir_vgr (pc' := 201) (c := 588) rfl rfl rfl rfl rfl hv ?_
                refine ir_l (pc' := 202) rfl rfl rfl rfl rfl rfl ?_
                refine ir_vba (pc' := 203) rfl rfl vg_588 rfl (Nat.le_of_ble_eq_true rfl) hv rfl (h16 c12 c15) (fun r17 => ?_)
                refine ir_z_eq (pt := 210) (pc' := 206) rfl rfl rfl (fun c18 => ?_) (fun c18 => ?_)
                · refine ir_k (pc' := 211) (v := (0, 0)) rfl rfl rfl (fun _ => rfl) ?_
                  refine ir_w [(0, (2, ((582 : Nat) : Int))), (1, (0, l1)), (2, (0, (l2 + (-1)))), (3, (0, l3))] ⟨rfl, rfl, rfl, rfl, trivial⟩ ?_
                  exact J213 0 (Or.inl rfl) (hW _ (by rw [if_pos c12, if_neg (by omega), if_pos c18]))
                · refine ir_k (pc' := 207) (v := (0, 1)) rfl rfl rfl (fun _ => rfl) ?_
                  refine ir_goto (pc' := 211) rfl rfl ?_
                  refine ir_w [(0, (2, ((582 : Nat) : Int))), (1, (0, l1)), (2, (0, (l2 + (-1)))), (3, (0, l3))] ⟨rfl, rfl, rfl, rfl, trivial⟩ ?_
                  exact J213 1 (Or.inr rfl) (hW _ (by rw [if_pos c12, if_neg (by omega), if_neg (fun z => c18 z)]))
            · refine ir_l (pc' := 159) rfl rfl rfl rfl rfl rfl ?_
              refine ir_vgr (pc' := 162) (c := 588) rfl rfl rfl rfl rfl hv ?_
              refine ir_l (pc' := 163) rfl rfl rfl rfl rfl rfl ?_
              refine ir_k (pc' := 164) (v := (0, 1)) rfl rfl rfl (fun _ => rfl) ?_
              refine ir_sub (pc' := 165) rfl rfl h11.1 h11.2 ?_
              refine ir_vba (pc' := 166) rfl rfl vg_588 rfl (Nat.le_of_ble_eq_true rfl) hv rfl (h19 c12) (fun r20 => ?_)
              refine ir_z_eq (pt := 182) (pc' := 169) rfl rfl rfl (fun c21 => ?_) (fun c21 => ?_)
              · refine ir_k (pc' := 183) (v := (0, 0)) rfl rfl rfl (fun _ => rfl) ?_
                refine ir_goto (pc' := 211) rfl rfl ?_
                refine ir_w [(0, (2, ((582 : Nat) : Int))), (1, (0, l1)), (2, (0, (l2 + (-1)))), (3, (0, l3))] ⟨rfl, rfl, rfl, rfl, trivial⟩ ?_
                exact J213 0 (Or.inl rfl) (hW _ (by rw [if_neg (by omega), if_pos c21]))
              · refine ir_l (pc' := 170) rfl rfl rfl rfl rfl rfl ?_
                refine ir_vgr (pc' := 173) (c := 588) rfl rfl rfl rfl rfl hv ?_
                refine ir_l (pc' := 174) rfl rfl rfl rfl rfl rfl ?_
                refine ir_vba (pc' := 175) rfl rfl vg_588 rfl (Nat.le_of_ble_eq_true rfl) hv rfl (h22 c12 c21) (fun r23 => ?_)
                refine ir_z_eq (pt := 182) (pc' := 178) rfl rfl rfl (fun c24 => ?_) (fun c24 => ?_)
                · refine ir_k (pc' := 183) (v := (0, 0)) rfl rfl rfl (fun _ => rfl) ?_
                  refine ir_goto (pc' := 211) rfl rfl ?_
                  refine ir_w [(0, (2, ((582 : Nat) : Int))), (1, (0, l1)), (2, (0, (l2 + (-1)))), (3, (0, l3))] ⟨rfl, rfl, rfl, rfl, trivial⟩ ?_
                  exact J213 0 (Or.inl rfl) (hW _ (by rw [if_neg (by omega), if_neg (fun z => c21 z), if_pos c24]))
                · refine ir_k (pc' := 179) (v := (0, 1)) rfl rfl rfl (fun _ => rfl) ?_
                  refine ir_goto (pc' := 211) rfl rfl ?_
                  refine ir_w [(0, (2, ((582 : Nat) : Int))), (1, (0, l1)), (2, (0, (l2 + (-1)))), (3, (0, l3))] ⟨rfl, rfl, rfl, rfl, trivial⟩ ?_
                  exact J213 1 (Or.inr rfl) (hW _ (by rw [if_neg (by omega), if_neg (fun z => c21 z), if_neg (fun z => c24 z)]))
          · have hW := hW.2 c9
            obtain ⟨h217, hW⟩ := hW
            have h216 : iR (l2 - 1) := ⟨by omega, by omega⟩
            refine ir_l (pc' := 115) rfl rfl rfl rfl rfl rfl ?_
            refine ir_vgr (pc' := 118) (c := 588) rfl rfl rfl rfl rfl hv ?_
            refine ir_l (pc' := 119) rfl rfl rfl rfl rfl rfl ?_
            refine ir_k (pc' := 120) (v := (0, 1)) rfl rfl rfl (fun _ => rfl) ?_
            refine ir_sub (pc' := 121) rfl rfl h216.1 h216.2 ?_
            refine ir_l (pc' := 122) rfl rfl rfl rfl rfl rfl ?_
            refine ir_vgr (pc' := 125) (c := 588) rfl rfl rfl rfl rfl hv ?_
            refine ir_l (pc' := 126) rfl rfl rfl rfl rfl rfl ?_
            refine ir_k (pc' := 127) (v := (0, 1)) rfl rfl rfl (fun _ => rfl) ?_
            refine ir_sub (pc' := 128) rfl rfl h216.1 h216.2 ?_
            refine ir_vba (pc' := 129) rfl rfl vg_588 rfl (Nat.le_of_ble_eq_true rfl) hv rfl h217 (fun r218 => ?_)
            have J420 : ∀ v419 : Int, zR v419 → (((0 ≤ (l2 - 1) ∧ (l2 - 1) < 400) ∧ (∀ s422, s422 = wpa s 588 (l2 - 1) v419 → (W_isSo_212 (fun b => I4 b ∧ r4 b < r4 t4) l1 l2 l3 s422 Q)))) → ir gG rm_P L ys d rm_p_X10_isSo (137, [(0, (2, ((582 : Nat) : Int))), (1, (0, l1)), (2, (0, l2)), (3, (0, l3))], [(0, v419), (0, (l2 - 1)), (2, ((588 : Nat) : Int))], s) (fun r : im_Re => ∃ z, r.1 = some (0, z) ∧ (vI r.2 ∧ zR z ∧ Q z r.2)) := by
              intro v419 v419r hW
              obtain ⟨h421, hW⟩ := hW
              refine ir_vbs (pc' := 138) rfl rfl vg_588 rfl (Nat.le_of_ble_eq_true rfl) hv rfl h421 v419r (fun s422 s422e s422v => ?_)
              have hW := hW s422 s422e
              refine ir_goto (pc' := 212) rfl rfl ?_
              refine ir_w [(0, (2, ((582 : Nat) : Int))), (1, (0, l1)), (2, (0, l2)), (3, (0, l3))] ⟨rfl, rfl, rfl, rfl, trivial⟩ ?_
              exact J212 l2 l2r l3 l3r s422 s422v hW
            refine ir_z_ne (pt := 136) (pc' := 132) rfl rfl rfl (fun c219 => ?_) (fun c219 => ?_)
            · refine ir_k (pc' := 137) (v := (0, 0)) rfl rfl rfl (fun _ => rfl) ?_
              refine ir_w [(0, (2, ((582 : Nat) : Int))), (1, (0, l1)), (2, (0, l2)), (3, (0, l3))] ⟨rfl, rfl, rfl, rfl, trivial⟩ ?_
              exact J420 0 (Or.inl rfl) (hW _ (by rw [if_pos c219]))
            · refine ir_k (pc' := 133) (v := (0, 1)) rfl rfl rfl (fun _ => rfl) ?_
              refine ir_goto (pc' := 137) rfl rfl ?_
              refine ir_w [(0, (2, ((582 : Nat) : Int))), (1, (0, l1)), (2, (0, l2)), (3, (0, l3))] ⟨rfl, rfl, rfl, rfl, trivial⟩ ?_
              exact J420 1 (Or.inr rfl) (hW _ (by rw [if_neg (by omega)]))
        · have hW := hW.2 c8
          obtain ⟨h423, h425, h427, hW⟩ := hW
          have h424 : iR ((10 * l1) + (wga s 586 l3)) := ⟨by omega, by omega⟩
          refine ir_l (pc' := 26) rfl rfl rfl rfl rfl rfl ?_
          refine ir_vgr (pc' := 29) (c := 617) rfl rfl rfl rfl rfl hv ?_
          refine ir_k (pc' := 31) (v := (0, 10)) rfl rfl rfl (fun _ => rfl) ?_
          refine ir_l (pc' := 32) rfl rfl rfl rfl rfl rfl ?_
          refine ir_mul (pc' := 33) rfl rfl h423.1 h423.2 ?_
          refine ir_l (pc' := 35) rfl rfl rfl rfl rfl rfl ?_
          refine ir_add (pc' := 36) rfl rfl h424.1 h424.2 ?_
          refine ir_via (pc' := 37) rfl rfl vg_617 rfl (Nat.le_of_ble_eq_true rfl) hv rfl h425 (fun r426 => ?_)
          refine ir_s (pc' := 39) rfl rfl rfl rfl rfl rfl ?_
          refine ir_l (pc' := 40) rfl rfl rfl rfl rfl rfl ?_
          refine ir_vgr (pc' := 43) (c := 588) rfl rfl rfl rfl rfl hv ?_
          refine ir_l (pc' := 44) rfl rfl rfl rfl rfl rfl ?_
          refine ir_l (pc' := 45) rfl rfl rfl rfl rfl rfl ?_
          refine ir_vgr (pc' := 48) (c := 585) rfl rfl rfl rfl rfl hv ?_
          refine ir_l (pc' := 50) rfl rfl rfl rfl rfl rfl ?_
          refine ir_via (pc' := 51) rfl rfl vg_585 rfl (Nat.le_of_ble_eq_true rfl) hv rfl h427 (fun r428 => ?_)
          have J630 : ∀ v629 : Int, zR v629 → (((0 ≤ l2 ∧ l2 < 400) ∧ (∀ s632, s632 = wpa s 588 l2 v629 → ((iR (l2 + 1)) ∧ (W_isSo_212 (fun b => I4 b ∧ r4 b < r4 t4) l1 (l2 + 1) l3 s632 Q))))) → ir gG rm_P L ys d rm_p_X10_isSo (101, [(0, (2, ((582 : Nat) : Int))), (1, (0, l1)), (2, (0, l2)), (3, (0, l3))], [(0, v629), (0, l2), (2, ((588 : Nat) : Int))], s) (fun r : im_Re => ∃ z, r.1 = some (0, z) ∧ (vI r.2 ∧ zR z ∧ Q z r.2)) := by
            intro v629 v629r hW
            obtain ⟨h631, hW⟩ := hW
            refine ir_vbs (pc' := 102) rfl rfl vg_588 rfl (Nat.le_of_ble_eq_true rfl) hv rfl h631 v629r (fun s632 s632e s632v => ?_)
            have hW := hW s632 s632e
            obtain ⟨h633, hW⟩ := hW
            refine ir_inc (pc' := 105) rfl rfl rfl rfl rfl h633.1 h633.2 ?_
            refine ir_goto (pc' := 212) rfl rfl ?_
            refine ir_w [(0, (2, ((582 : Nat) : Int))), (1, (0, l1)), (2, (0, (l2 + 1))), (3, (0, l3))] ⟨rfl, rfl, rfl, rfl, trivial⟩ ?_
            exact J212 (l2 + 1) h633 l3 l3r s632 s632v hW
          refine ir_z_ne (pt := 67) (pc' := 54) rfl rfl rfl (fun c429 => ?_) (fun c429 => ?_)
          · refine ir_l (pc' := 68) rfl rfl rfl rfl rfl rfl ?_
            refine ir_vgr (pc' := 71) (c := 585) rfl rfl rfl rfl rfl hv ?_
            refine ir_l (pc' := 73) rfl rfl rfl rfl rfl rfl ?_
            refine ir_via (pc' := 74) rfl rfl vg_585 rfl (Nat.le_of_ble_eq_true rfl) hv rfl h427 (fun r430 => ?_)
            refine ir_k (pc' := 75) (v := (0, 1)) rfl rfl rfl (fun _ => rfl) ?_
            refine ir_c_ne (pt := 91) (pc' := 78) rfl rfl rfl (fun c431 => ?_) (fun c431 => ?_)
            · refine ir_l (pc' := 93) rfl rfl rfl rfl rfl rfl ?_
              refine ir_z_le (pt := 100) (pc' := 96) rfl rfl rfl (fun c432 => ?_) (fun c432 => ?_)
              · refine ir_k (pc' := 101) (v := (0, 0)) rfl rfl rfl (fun _ => rfl) ?_
                refine ir_w [(0, (2, ((582 : Nat) : Int))), (1, (0, l1)), (2, (0, l2)), (3, (0, l3))] ⟨rfl, rfl, rfl, rfl, trivial⟩ ?_
                exact J630 0 (Or.inl rfl) (hW _ (by rw [if_pos c429, if_pos c431, if_pos c432]))
              · refine ir_k (pc' := 97) (v := (0, 1)) rfl rfl rfl (fun _ => rfl) ?_
                refine ir_goto (pc' := 101) rfl rfl ?_
                refine ir_w [(0, (2, ((582 : Nat) : Int))), (1, (0, l1)), (2, (0, l2)), (3, (0, l3))] ⟨rfl, rfl, rfl, rfl, trivial⟩ ?_
                exact J630 1 (Or.inr rfl) (hW _ (by rw [if_pos c429, if_pos c431, if_neg (fun z => c432 z)]))
            · refine ir_l (pc' := 80) rfl rfl rfl rfl rfl rfl ?_
              refine ir_z_ge (pt := 87) (pc' := 83) rfl rfl rfl (fun c433 => ?_) (fun c433 => ?_)
              · refine ir_k (pc' := 88) (v := (0, 0)) rfl rfl rfl (fun _ => rfl) ?_
                refine ir_goto (pc' := 101) rfl rfl ?_
                refine ir_w [(0, (2, ((582 : Nat) : Int))), (1, (0, l1)), (2, (0, l2)), (3, (0, l3))] ⟨rfl, rfl, rfl, rfl, trivial⟩ ?_
                exact J630 0 (Or.inl rfl) (hW _ (by rw [if_pos c429, if_neg (by omega), if_pos c433]))
              · refine ir_k (pc' := 84) (v := (0, 1)) rfl rfl rfl (fun _ => rfl) ?_
                refine ir_goto (pc' := 101) rfl rfl ?_
                refine ir_w [(0, (2, ((582 : Nat) : Int))), (1, (0, l1)), (2, (0, l2)), (3, (0, l3))] ⟨rfl, rfl, rfl, rfl, trivial⟩ ?_
                exact J630 1 (Or.inr rfl) (hW _ (by rw [if_pos c429, if_neg (by omega), if_neg (fun z => c433 z)]))
          · refine ir_l (pc' := 56) rfl rfl rfl rfl rfl rfl ?_
            refine ir_z_ne (pt := 63) (pc' := 59) rfl rfl rfl (fun c434 => ?_) (fun c434 => ?_)
            · refine ir_k (pc' := 64) (v := (0, 0)) rfl rfl rfl (fun _ => rfl) ?_
              refine ir_goto (pc' := 101) rfl rfl ?_
              refine ir_w [(0, (2, ((582 : Nat) : Int))), (1, (0, l1)), (2, (0, l2)), (3, (0, l3))] ⟨rfl, rfl, rfl, rfl, trivial⟩ ?_
              exact J630 0 (Or.inl rfl) (hW _ (by rw [if_neg (by omega), if_pos c434]))
            · refine ir_k (pc' := 60) (v := (0, 1)) rfl rfl rfl (fun _ => rfl) ?_
              refine ir_goto (pc' := 101) rfl rfl ?_
              refine ir_w [(0, (2, ((582 : Nat) : Int))), (1, (0, l1)), (2, (0, l2)), (3, (0, l3))] ⟨rfl, rfl, rfl, rfl, trivial⟩ ?_
              exact J630 1 (Or.inr rfl) (hW _ (by rw [if_neg (by omega), if_neg (by omega)]))
  unfold W_isSo at hW
  refine ir_k (pc' := 1) (v := (0, 0)) rfl rfl rfl (fun _ => rfl) ?_
  refine ir_s (pc' := 2) rfl rfl rfl rfl rfl rfl ?_
  refine ir_k (pc' := 3) (v := (0, 0)) rfl rfl rfl (fun _ => rfl) ?_
  refine ir_s (pc' := 4) rfl rfl rfl rfl rfl rfl ?_
  refine ir_w [(0, (2, ((582 : Nat) : Int))), (1, (0, l1)), (2, (0, 0)), (3, (0, 0))] ⟨rfl, rfl, rfl, rfl, trivial⟩ ?_
  obtain ⟨I9, r9, hI9, hB9⟩ := hW
  exact J4 l1 l1r I9 r9 hB9 _ 0 (zR_i (Or.inl rfl)) 0 (zR_i (Or.inl rfl)) s hv hI9 (Nat.lt_succ_self _)
