/-! THE REFERENCE LIFTED, by program -/
def W_isRoot (l1 : Int) (s : im_S) (Q : Int → im_S → Prop) : Prop := (∀ v202 : Int, v202 = (if (wgf s 5) = 0 then 0 else (if l1 < 0 then 0 else (if (wgf s 41) ≤ l1 then 0 else 1))) → (Q v202 s))
set_option maxRecDepth 16384 in
theorem w_isRoot (L : Nat) (ys : Nat → Int32) (d : Nat) (s : im_S) (hv : vI s) (l1 : Int) (l1r : iR l1) (Q : Int → im_S → Prop) (hW : W_isRoot l1 s Q) : icI gG rm_P L ys 0 (d + 1) 55 [(2, ((582 : Nat) : Int)), (0, l1)] s (fun z9 s9 => vI s9 ∧ zR z9 ∧ Q z9 s9) := by
  refine ic_startM (M := rm_p_X10_isRoot) om_X10_isRoot (Nat.le_of_ble_eq_true rfl) ?_
  refine ir_w [(0, (2, ((582 : Nat) : Int))), (1, (0, l1))] ⟨rfl, rfl, trivial⟩ ?_
  unfold W_isRoot at hW
  refine ir_l (pc' := 1) rfl rfl rfl rfl rfl rfl ?_
  refine ir_vgz (pc' := 4) rfl rfl rfl rfl rfl hv (fun r1 => ?_)
  have J203 : ∀ v202 : Int, zR v202 → ((Q v202 s)) → ir gG rm_P L ys d rm_p_X10_isRoot (24, [], [(0, v202)], s) (fun r : im_Re => ∃ z, r.1 = some (0, z) ∧ (vI r.2 ∧ zR z ∧ Q z r.2)) := by
    intro v202 v202r hW
    exact ir_zret rfl rfl v202r ⟨_, rfl, hv, v202r, hW⟩
  refine ir_z_eq (pt := 23) (pc' := 7) rfl rfl rfl (fun c2 => ?_) (fun c2 => ?_)
  · refine ir_k (pc' := 24) (v := (0, 0)) rfl rfl rfl (fun _ => rfl) ?_
    refine ir_w [] trivial ?_
    exact J203 0 (Or.inl rfl) (hW _ (by rw [if_pos c2]))
  · refine ir_l (pc' := 8) rfl rfl rfl rfl rfl rfl ?_
    refine ir_z_lt (pt := 23) (pc' := 11) rfl rfl rfl (fun c3 => ?_) (fun c3 => ?_)
    · refine ir_k (pc' := 24) (v := (0, 0)) rfl rfl rfl (fun _ => rfl) ?_
      refine ir_w [] trivial ?_
      exact J203 0 (Or.inl rfl) (hW _ (by rw [if_neg (fun z => c2 z), if_pos c3]))
    · refine ir_l (pc' := 12) rfl rfl rfl rfl rfl rfl ?_
      refine ir_l (pc' := 13) rfl rfl rfl rfl rfl rfl ?_
      refine ir_vgi (pc' := 16) rfl rfl rfl rfl rfl hv (fun r4 => ?_)
      refine ir_c_ge (pt := 23) (pc' := 19) rfl rfl rfl (fun c5 => ?_) (fun c5 => ?_)
      · refine ir_k (pc' := 24) (v := (0, 0)) rfl rfl rfl (fun _ => rfl) ?_
        refine ir_w [] trivial ?_
        exact J203 0 (Or.inl rfl) (hW _ (by rw [if_neg (fun z => c2 z), if_neg (fun z => c3 z), if_pos c5]))
      · refine ir_k (pc' := 20) (v := (0, 1)) rfl rfl rfl (fun _ => rfl) ?_
        refine ir_goto (pc' := 24) rfl rfl ?_
        refine ir_w [] trivial ?_
        exact J203 1 (Or.inr rfl) (hW _ (by rw [if_neg (fun z => c2 z), if_neg (fun z => c3 z), if_neg (fun z => c5 z)]))
def W_common_72 (K14 : Int × Int × im_S → Prop) (K28 : Int × Int × im_S → Prop) (l1 : Int) (l2 : Int) (l3 : Int) (l5 : Int) (k0 : Int) (s : im_S) (Q : Int → im_S → Prop) : Prop := ((iR (l5 + 1)) ∧ (K28 (k0, (l5 + 1), s)))
def W_common_28 (K14 : Int × Int × im_S → Prop) (K28 : Int × Int × im_S → Prop) (l1 : Int) (l2 : Int) (l3 : Int) (l4 : Int) (l5 : Int) (s : im_S) (Q : Int → im_S → Prop) : Prop := (((wgf s 6) ≤ l5 → ((¬ (l4 = 0) → (0 ≤ l3 ∧ l3 < 200)) ∧ (¬ (l4 = 0) → (0 ≤ (wga s 602 l3) ∧ (wga s 602 l3) < 1200)) ∧ (∀ v204 : Int, v204 = (if l4 = 0 then 0 else (wga s 598 (wga s 602 l3))) → ((iR (l2 + v204)) ∧ (iR (l3 + 1)) ∧ (K14 ((l2 + v204), (l3 + 1), s)))))) ∧ (¬ ((wgf s 6) ≤ l5) → ((l4 = 0 → (W_common_72 K14 K28 l1 l2 l3 l5 0 s Q)) ∧ (¬ (l4 = 0) → (W_timesAt l1 l5 s (fun z210 s209 => ((¬ (z210 = 0) → iR (10 * l3)) ∧ (¬ (z210 = 0) → (0 ≤ ((10 * l3) + l5) ∧ ((10 * l3) + l5) < 2000)) ∧ (∀ v411 : Int, v411 = (if z210 = 0 then 1 else (if (wga s209 606 ((10 * l3) + l5)) ≤ 0 then 0 else 1)) → (W_common_72 K14 K28 l1 l2 l3 l5 v411 s209 Q)))))))))
def W_common_14 (K14 : Int × Int × im_S → Prop) (l1 : Int) (l2 : Int) (l3 : Int) (s : im_S) (Q : Int → im_S → Prop) : Prop := (((wgf s 34) ≤ l3 → (Q l2 s)) ∧ (¬ ((wgf s 34) ≤ l3) → (wloop (fun (K : Int × Int × im_S → Prop) (a : Int × Int × im_S) => W_common_28 K14 K l1 l2 l3 a.1 a.2.1 a.2.2 Q) (1, 0, s))))
def W_common (l1 : Int) (s : im_S) (Q : Int → im_S → Prop) : Prop := (W_isRoot l1 s (fun z416 s415 => ((¬ (z416 = 0) → (wloop (fun (K : Int × Int × im_S → Prop) (a : Int × Int × im_S) => W_common_14 K l1 a.1 a.2.1 a.2.2 Q) (0, 0, s415))) ∧ (z416 = 0 → (Q (-1) s415)))))
set_option maxRecDepth 16384 in
theorem w_common (L : Nat) (ys : Nat → Int32) (d : Nat) (s : im_S) (hv : vI s) (l1 : Int) (l1r : iR l1) (Q : Int → im_S → Prop) (hW : W_common l1 s Q) : icI gG rm_P L ys 0 (d + 2) 21 [(2, ((582 : Nat) : Int)), (0, l1)] s (fun z9 s9 => vI s9 ∧ iR z9 ∧ Q z9 s9) := by
  refine ic_startM (M := rm_p_X10_common) om_X10_common (Nat.le_of_ble_eq_true rfl) ?_
  refine ir_w [(0, (2, ((582 : Nat) : Int))), (1, (0, l1))] ⟨rfl, rfl, trivial⟩ ?_
  have J14 : ∀ (l1 : Int) (l1r : iR l1) (I14 : Int × Int × im_S → Prop) (r14 : Int × Int × im_S → Nat) (hB14 : ∀ a : Int × Int × im_S, I14 a → W_common_14 (fun b => I14 b ∧ r14 b < r14 a) l1 a.1 a.2.1 a.2.2 Q), ∀ n14 : Nat, ∀ (l2 : Int) (l2r : iR l2) (l3 : Int) (l3r : iR l3) (s : im_S) (hv : vI s), I14 (l2, l3, s) → r14 (l2, l3, s) < n14 → ir gG rm_P L ys (d + 1) rm_p_X10_common (14, [(0, (2, ((582 : Nat) : Int))), (1, (0, l1)), (2, (0, l2)), (3, (0, l3))], [], s) (fun r : im_Re => ∃ z, r.1 = some (0, z) ∧ (vI r.2 ∧ iR z ∧ Q z r.2)) := by
    intro l1 l1r I14 r14 hB14 n14
    induction n14 with
    | zero => intro l2 l2r l3 l3r s hv hI hr; exact absurd hr (Nat.not_lt_zero _)
    | succ n14 ih14 =>
      intro l2 l2r l3 l3r s hv hI hr14
      obtain ⟨t14, ht14⟩ : ∃ t14 : Int × Int × im_S, t14 = (l2, l3, s) := ⟨_, rfl⟩
      rw [← ht14] at hr14
      have hW : W_common_14 (fun b => I14 b ∧ r14 b < r14 t14) l1 l2 l3 s Q := by have z := hB14 (l2, l3, s) hI; rw [ht14]; exact z
      have J28 : ∀ (l2 : Int) (l2r : iR l2) (l3 : Int) (l3r : iR l3) (I28 : Int × Int × im_S → Prop) (r28 : Int × Int × im_S → Nat) (hB28 : ∀ a : Int × Int × im_S, I28 a → W_common_28 (fun b => I14 b ∧ r14 b < r14 t14) (fun b => I28 b ∧ r28 b < r28 a) l1 l2 l3 a.1 a.2.1 a.2.2 Q), ∀ n28 : Nat, ∀ (l4 : Int) (l4r : iR l4) (l5 : Int) (l5r : iR l5) (s : im_S) (hv : vI s), I28 (l4, l5, s) → r28 (l4, l5, s) < n28 → ir gG rm_P L ys (d + 1) rm_p_X10_common (28, [(0, (2, ((582 : Nat) : Int))), (1, (0, l1)), (2, (0, l2)), (3, (0, l3)), (4, (0, l4)), (5, (0, l5))], [], s) (fun r : im_Re => ∃ z, r.1 = some (0, z) ∧ (vI r.2 ∧ iR z ∧ Q z r.2)) := by
        intro l2 l2r l3 l3r I28 r28 hB28 n28
        induction n28 with
        | zero => intro l4 l4r l5 l5r s hv hI hr; exact absurd hr (Nat.not_lt_zero _)
        | succ n28 ih28 =>
          intro l4 l4r l5 l5r s hv hI hr28
          obtain ⟨t28, ht28⟩ : ∃ t28 : Int × Int × im_S, t28 = (l4, l5, s) := ⟨_, rfl⟩
          rw [← ht28] at hr28
          have hW : W_common_28 (fun b => I14 b ∧ r14 b < r14 t14) (fun b => I28 b ∧ r28 b < r28 t28) l1 l2 l3 l4 l5 s Q := by have z := hB28 (l4, l5, s) hI; rw [ht28]; exact z
          have J72 : ∀ (l5 : Int) (l5r : iR l5) (k0 : Int) (k0r : zR k0) (s : im_S) (hv : vI s), W_common_72 (fun b => I14 b ∧ r14 b < r14 t14) (fun b => I28 b ∧ r28 b < r28 t28) l1 l2 l3 l5 k0 s Q → ir gG rm_P L ys (d + 1) rm_p_X10_common (72, [(0, (2, ((582 : Nat) : Int))), (1, (0, l1)), (2, (0, l2)), (3, (0, l3)), (5, (0, l5))], [(0, k0)], s) (fun r : im_Re => ∃ z, r.1 = some (0, z) ∧ (vI r.2 ∧ iR z ∧ Q z r.2)) := by
            intro l5 l5r k0 k0r s hv hW
            unfold W_common_72 at hW
            obtain ⟨h1, hW⟩ := hW
            refine ir_s (pc' := 74) rfl rfl rfl rfl rfl rfl ?_
            refine ir_inc (pc' := 77) rfl rfl rfl rfl rfl h1.1 h1.2 ?_
            refine ir_goto (pc' := 28) rfl rfl ?_
            refine ir_w [(0, (2, ((582 : Nat) : Int))), (1, (0, l1)), (2, (0, l2)), (3, (0, l3)), (4, (0, k0)), (5, (0, (l5 + 1)))] ⟨rfl, rfl, rfl, rfl, rfl, rfl, trivial⟩ ?_
            exact ih28 k0 (zR_i k0r) (l5 + 1) h1 s hv hW.1 (Nat.lt_of_lt_of_le hW.2 (Nat.le_of_lt_succ hr28))
          unfold W_common_28 at hW
          refine ir_l (pc' := 30) rfl rfl rfl rfl rfl rfl ?_
          refine ir_l (pc' := 31) rfl rfl rfl rfl rfl rfl ?_
          refine ir_vgi (pc' := 34) rfl rfl rfl rfl rfl hv (fun r2 => ?_)
          refine ir_c_ge (pt := 80) (pc' := 37) rfl rfl rfl (fun c3 => ?_) (fun c3 => ?_)
          · have hW := hW.1 c3
            obtain ⟨h5, h7, hW⟩ := hW
            refine ir_l (pc' := 81) rfl rfl rfl rfl rfl rfl ?_
            refine ir_l (pc' := 83) rfl rfl rfl rfl rfl rfl ?_
            have J205 : ∀ v204 : Int, iR v204 → (((iR (l2 + v204)) ∧ (iR (l3 + 1)) ∧ ((fun b => I14 b ∧ r14 b < r14 t14) ((l2 + v204), (l3 + 1), s)))) → ir gG rm_P L ys (d + 1) rm_p_X10_common (101, [(0, (2, ((582 : Nat) : Int))), (1, (0, l1)), (3, (0, l3))], [(0, v204), (0, l2)], s) (fun r : im_Re => ∃ z, r.1 = some (0, z) ∧ (vI r.2 ∧ iR z ∧ Q z r.2)) := by
              intro v204 v204r hW
              obtain ⟨h206, h207, hW⟩ := hW
              refine ir_add (pc' := 102) rfl rfl h206.1 h206.2 ?_
              refine ir_s (pc' := 103) rfl rfl rfl rfl rfl rfl ?_
              refine ir_inc (pc' := 106) rfl rfl rfl rfl rfl h207.1 h207.2 ?_
              refine ir_goto (pc' := 14) rfl rfl ?_
              refine ir_w [(0, (2, ((582 : Nat) : Int))), (1, (0, l1)), (2, (0, (l2 + v204))), (3, (0, (l3 + 1)))] ⟨rfl, rfl, rfl, rfl, trivial⟩ ?_
              exact ih14 (l2 + v204) h206 (l3 + 1) h207 s hv hW.1 (Nat.lt_of_lt_of_le hW.2 (Nat.le_of_lt_succ hr14))
            refine ir_z_eq (pt := 100) (pc' := 86) rfl rfl rfl (fun c4 => ?_) (fun c4 => ?_)
            · refine ir_k (pc' := 101) (v := (0, 0)) rfl rfl rfl (fun _ => rfl) ?_
              refine ir_w [(0, (2, ((582 : Nat) : Int))), (1, (0, l1)), (3, (0, l3))] ⟨rfl, rfl, rfl, trivial⟩ ?_
              exact J205 0 (zR_i (Or.inl rfl)) (hW _ (by rw [if_pos c4]))
            · refine ir_l (pc' := 87) rfl rfl rfl rfl rfl rfl ?_
              refine ir_vgr (pc' := 90) (c := 598) rfl rfl rfl rfl rfl hv ?_
              refine ir_l (pc' := 91) rfl rfl rfl rfl rfl rfl ?_
              refine ir_vgr (pc' := 94) (c := 602) rfl rfl rfl rfl rfl hv ?_
              refine ir_l (pc' := 95) rfl rfl rfl rfl rfl rfl ?_
              refine ir_via (pc' := 96) rfl rfl vg_602 rfl (Nat.le_of_ble_eq_true rfl) hv rfl (h5 c4) (fun r6 => ?_)
              refine ir_via (pc' := 97) rfl rfl vg_598 rfl (Nat.le_of_ble_eq_true rfl) hv rfl (h7 c4) (fun r8 => ?_)
              refine ir_goto (pc' := 101) rfl rfl ?_
              refine ir_w [(0, (2, ((582 : Nat) : Int))), (1, (0, l1)), (3, (0, l3))] ⟨rfl, rfl, rfl, trivial⟩ ?_
              exact J205 (wga s 598 (wga s 602 l3)) r8 (hW _ (by rw [if_neg (fun z => c4 z)]))
          · have hW := hW.2 c3
            refine ir_l (pc' := 39) rfl rfl rfl rfl rfl rfl ?_
            refine ir_z_eq (pt := 71) (pc' := 42) rfl rfl rfl (fun c208 => ?_) (fun c208 => ?_)
            · have hW := hW.1 c208
              refine ir_k (pc' := 72) (v := (0, 0)) rfl rfl rfl (fun _ => rfl) ?_
              refine ir_w [(0, (2, ((582 : Nat) : Int))), (1, (0, l1)), (2, (0, l2)), (3, (0, l3)), (5, (0, l5))] ⟨rfl, rfl, rfl, rfl, rfl, trivial⟩ ?_
              exact J72 l5 l5r 0 (Or.inl rfl) s hv hW
            · have hW := hW.2 c208
              refine ir_l (pc' := 43) rfl rfl rfl rfl rfl rfl ?_
              refine ir_l (pc' := 44) rfl rfl rfl rfl rfl rfl ?_
              refine ir_l (pc' := 46) rfl rfl rfl rfl rfl rfl ?_
              refine ir_cVI (pc' := 49) rfl rfl rfl rfl rfl (Nat.le_of_ble_eq_true rfl) oo_X10_timesAt vg_582 (w_timesAt L ys d s hv l1 l1r l5 l5r _ hW) (fun z210 s209 hr => ?_)
              obtain ⟨s209v, z210r, hW⟩ := hr
              obtain ⟨h212, h214, hW⟩ := hW
              have h213 : ¬ (z210 = 0) → iR ((10 * l3) + l5) := fun g0_ => ⟨by have z := h214 g0_; omega, by have z := h214 g0_; omega⟩
              have J412 : ∀ v411 : Int, zR v411 → ((W_common_72 (fun b => I14 b ∧ r14 b < r14 t14) (fun b => I28 b ∧ r28 b < r28 t28) l1 l2 l3 l5 v411 s209 Q)) → ir gG rm_P L ys (d + 1) rm_p_X10_common (72, [(0, (2, ((582 : Nat) : Int))), (1, (0, l1)), (2, (0, l2)), (3, (0, l3)), (5, (0, l5))], [(0, v411)], s209) (fun r : im_Re => ∃ z, r.1 = some (0, z) ∧ (vI r.2 ∧ iR z ∧ Q z r.2)) := by
                intro v411 v411r hW
                refine ir_w [(0, (2, ((582 : Nat) : Int))), (1, (0, l1)), (2, (0, l2)), (3, (0, l3)), (5, (0, l5))] ⟨rfl, rfl, rfl, rfl, rfl, trivial⟩ ?_
                exact J72 l5 l5r v411 v411r s209 s209v hW
              refine ir_z_eq (pt := 67) (pc' := 52) rfl rfl rfl (fun c211 => ?_) (fun c211 => ?_)
              · refine ir_k (pc' := 68) (v := (0, 1)) rfl rfl rfl (fun _ => rfl) ?_
                refine ir_goto (pc' := 72) rfl rfl ?_
                refine ir_w [(0, (2, ((582 : Nat) : Int))), (1, (0, l1)), (2, (0, l2)), (3, (0, l3)), (5, (0, l5))] ⟨rfl, rfl, rfl, rfl, rfl, trivial⟩ ?_
                exact J412 1 (Or.inr rfl) (hW _ (by rw [if_pos c211]))
              · refine ir_l (pc' := 53) rfl rfl rfl rfl rfl rfl ?_
                refine ir_vgr (pc' := 56) (c := 606) rfl rfl rfl rfl rfl s209v ?_
                refine ir_k (pc' := 58) (v := (0, 10)) rfl rfl rfl (fun _ => rfl) ?_
                refine ir_l (pc' := 59) rfl rfl rfl rfl rfl rfl ?_
                refine ir_mul (pc' := 60) rfl rfl (h212 c211).1 (h212 c211).2 ?_
                refine ir_l (pc' := 62) rfl rfl rfl rfl rfl rfl ?_
                refine ir_add (pc' := 63) rfl rfl (h213 c211).1 (h213 c211).2 ?_
                refine ir_via (pc' := 64) rfl rfl vg_606 rfl (Nat.le_of_ble_eq_true rfl) s209v rfl (h214 c211) (fun r215 => ?_)
                refine ir_z_le (pt := 71) (pc' := 67) rfl rfl rfl (fun c216 => ?_) (fun c216 => ?_)
                · refine ir_k (pc' := 72) (v := (0, 0)) rfl rfl rfl (fun _ => rfl) ?_
                  refine ir_w [(0, (2, ((582 : Nat) : Int))), (1, (0, l1)), (2, (0, l2)), (3, (0, l3)), (5, (0, l5))] ⟨rfl, rfl, rfl, rfl, rfl, trivial⟩ ?_
                  exact J412 0 (Or.inl rfl) (hW _ (by rw [if_neg (fun z => c211 z), if_pos c216]))
                · refine ir_k (pc' := 68) (v := (0, 1)) rfl rfl rfl (fun _ => rfl) ?_
                  refine ir_goto (pc' := 72) rfl rfl ?_
                  refine ir_w [(0, (2, ((582 : Nat) : Int))), (1, (0, l1)), (2, (0, l2)), (3, (0, l3)), (5, (0, l5))] ⟨rfl, rfl, rfl, rfl, rfl, trivial⟩ ?_
                  exact J412 1 (Or.inr rfl) (hW _ (by rw [if_neg (fun z => c211 z), if_neg (fun z => c216 z)]))
      unfold W_common_14 at hW
      refine ir_l (pc' := 15) rfl rfl rfl rfl rfl rfl ?_
      refine ir_l (pc' := 16) rfl rfl rfl rfl rfl rfl ?_
      refine ir_vgi (pc' := 19) rfl rfl rfl rfl rfl hv (fun r413 => ?_)
      refine ir_c_ge (pt := 109) (pc' := 22) rfl rfl rfl (fun c414 => ?_) (fun c414 => ?_)
      · have hW := hW.1 c414
        refine ir_l (pc' := 110) rfl rfl rfl rfl rfl rfl ?_
        exact ir_iret rfl rfl ⟨_, rfl, hv, l2r, hW⟩
      · have hW := hW.2 c414
        refine ir_k (pc' := 23) (v := (0, 1)) rfl rfl rfl (fun _ => rfl) ?_
        refine ir_s (pc' := 25) rfl rfl rfl rfl rfl rfl ?_
        refine ir_k (pc' := 26) (v := (0, 0)) rfl rfl rfl (fun _ => rfl) ?_
        refine ir_s (pc' := 28) rfl rfl rfl rfl rfl rfl ?_
        refine ir_w [(0, (2, ((582 : Nat) : Int))), (1, (0, l1)), (2, (0, l2)), (3, (0, l3)), (4, (0, 1)), (5, (0, 0))] ⟨rfl, rfl, rfl, rfl, rfl, rfl, trivial⟩ ?_
        obtain ⟨I9, r9, hI9, hB9⟩ := hW
        exact J28 l2 l2r l3 l3r I9 r9 hB9 _ 1 (zR_i (Or.inr rfl)) 0 (zR_i (Or.inl rfl)) s hv hI9 (Nat.lt_succ_self _)
  unfold W_common at hW
  refine ir_l (pc' := 1) rfl rfl rfl rfl rfl rfl ?_
  refine ir_l (pc' := 2) rfl rfl rfl rfl rfl rfl ?_
  refine ir_cVI (pc' := 5) rfl rfl rfl rfl rfl (Nat.le_of_ble_eq_true rfl) oo_X10_isRoot vg_582 (w_isRoot L ys d s hv l1 l1r _ hW) (fun z416 s415 hr => ?_)
  obtain ⟨s415v, z416r, hW⟩ := hr
  refine ir_z_ne (pt := 10) (pc' := 8) rfl rfl rfl (fun c417 => ?_) (fun c417 => ?_)
  · have hW := hW.1 c417
    refine ir_k (pc' := 11) (v := (0, 0)) rfl rfl rfl (fun _ => rfl) ?_
    refine ir_s (pc' := 12) rfl rfl rfl rfl rfl rfl ?_
    refine ir_k (pc' := 13) (v := (0, 0)) rfl rfl rfl (fun _ => rfl) ?_
    refine ir_s (pc' := 14) rfl rfl rfl rfl rfl rfl ?_
    refine ir_w [(0, (2, ((582 : Nat) : Int))), (1, (0, l1)), (2, (0, 0)), (3, (0, 0))] ⟨rfl, rfl, rfl, rfl, trivial⟩ ?_
    obtain ⟨I9, r9, hI9, hB9⟩ := hW
    exact J14 l1 l1r I9 r9 hB9 _ 0 (zR_i (Or.inl rfl)) 0 (zR_i (Or.inl rfl)) s415 s415v hI9 (Nat.lt_succ_self _)
  · have hW := hW.2 c417
    refine ir_k (pc' := 9) (v := (0, (-1))) rfl rfl rfl (fun _ => rfl) ?_
    exact ir_iret rfl rfl ⟨_, rfl, s415v, (⟨by decide, by decide⟩ : iR (-1)), hW⟩
def W_restOf_220 (K92 : im_S → Prop) (K156 : Int × im_S → Prop) (l2 : Int) (l3 : Int) (l5 : Int) (l6 : Int) (l7 : Int) (l9 : Int) (l10 : Int) (k1 : Int) (k2 : Int) (k3 : Int) (s : im_S) (Q : Int → im_S → Prop) : Prop := (W_set k1 k2 k3 s (fun s1 => ((iR (l10 + 1)) ∧ (K156 ((l10 + 1), s1)))))
def W_restOf_156 (K92 : im_S → Prop) (K156 : Int × im_S → Prop) (l2 : Int) (l3 : Int) (l5 : Int) (l6 : Int) (l7 : Int) (l9 : Int) (l10 : Int) (s : im_S) (Q : Int → im_S → Prop) : Prop := ((0 ≤ l3 ∧ l3 < 1200) ∧ (((wga s 598 l3) ≤ l10 → ((0 ≤ l3 ∧ l3 < 1200) ∧ (iR ((wga s 598 l3) - 1)) ∧ (0 ≤ l3 ∧ l3 < 1200) ∧ (∀ s11, s11 = wpa s 598 l3 ((wga s 598 l3) - 1) → (W_clean l3 0 s11 (fun s12 => (K92 (s12))))))) ∧ (¬ ((wga s 598 l3) ≤ l10) → (W_at l3 l10 s (fun z15 s14 => (W_by z15 l6 s14 (fun z17 s16 => ((l7 ≤ l10 → ((iR (l10 - l7)) ∧ (W_at l2 (l10 - l7) s16 (fun z21 s20 => (W_by l9 z21 s20 (fun z23 s22 => (W_minus z17 z23 s22 (fun z25 s24 => (W_restOf_220 K92 K156 l2 l3 l5 l6 l7 l9 l10 l3 l10 z25 s24 Q))))))))) ∧ (¬ (l7 ≤ l10) → (W_restOf_220 K92 K156 l2 l3 l5 l6 l7 l9 l10 l3 l10 z17 s16 Q))))))))))
def W_restOf_151 (K92 : im_S → Prop) (l2 : Int) (l3 : Int) (l5 : Int) (l6 : Int) (l7 : Int) (k0 : Int) (s : im_S) (Q : Int → im_S → Prop) : Prop := (wloop (fun (K : Int × im_S → Prop) (a : Int × im_S) => W_restOf_156 K92 K l2 l3 l5 l6 l7 k0 a.1 a.2 Q) (0, s))
def W_restOf_92 (K92 : im_S → Prop) (l2 : Int) (l3 : Int) (l5 : Int) (l6 : Int) (s : im_S) (Q : Int → im_S → Prop) : Prop := ((0 ≤ l3 ∧ l3 < 1200) ∧ (0 ≤ l2 ∧ l2 < 1200) ∧ (((wga s 598 l3) < (wga s 598 l2) → (Q l3 s)) ∧ (¬ ((wga s 598 l3) < (wga s 598 l2)) → ((0 ≤ l3 ∧ l3 < 1200) ∧ (0 ≤ l2 ∧ l2 < 1200) ∧ (iR ((wga s 598 l3) - (wga s 598 l2))) ∧ (W_at l3 (wga s 598 l3) s (fun z38 s37 => ((l5 = 0 → (W_restOf_151 K92 l2 l3 l5 l6 ((wga s 598 l3) - (wga s 598 l2)) z38 s37 Q)) ∧ (¬ (l5 = 0) → (W_less z38 s37 (fun z41 s40 => (W_restOf_151 K92 l2 l3 l5 l6 ((wga s 598 l3) - (wga s 598 l2)) z41 s40 Q)))))))))))
def W_restOf_90 (l2 : Int) (l3 : Int) (l5 : Int) (k0 : Int) (s : im_S) (Q : Int → im_S → Prop) : Prop := (wloop (fun (K : im_S → Prop) (a : im_S) => W_restOf_92 K l2 l3 l5 k0 a Q) (s))
def W_restOf_14 (K14 : Int × im_S → Prop) (l1 : Int) (l2 : Int) (l3 : Int) (l4 : Int) (s : im_S) (Q : Int → im_S → Prop) : Prop := ((0 ≤ l1 ∧ l1 < 1200) ∧ (((wga s 598 l1) < l4 → ((0 ≤ l2 ∧ l2 < 1200) ∧ (W_at l2 (wga s 598 l2) s (fun z48 s47 => (W_sgn z48 s47 (fun z50 s49 => (∀ v251 : Int, v251 = (if 0 ≤ z50 then 0 else 1) → ((v251 = 0 → (W_restOf_90 l2 l3 v251 z48 s49 Q)) ∧ (¬ (v251 = 0) → (W_less z48 s49 (fun z255 s254 => (W_restOf_90 l2 l3 v251 z255 s254 Q)))))))))))) ∧ (¬ ((wga s 598 l1) < l4) → (W_at l1 l4 s (fun z257 s256 => (W_set l3 l4 z257 s256 (fun s258 => ((iR (l4 + 1)) ∧ (K14 ((l4 + 1), s258))))))))))
def W_restOf (l1 : Int) (l2 : Int) (s : im_S) (Q : Int → im_S → Prop) : Prop := ((0 ≤ l1 ∧ l1 < 1200) ∧ (W_newPolynomial (wga s 598 l1) s (fun z264 s263 => (wloop (fun (K : Int × im_S → Prop) (a : Int × im_S) => W_restOf_14 K l1 l2 z264 a.1 a.2 Q) (0, s263)))))
set_option maxRecDepth 16384 in
theorem w_restOf (L : Nat) (ys : Nat → Int32) (d : Nat) (s : im_S) (hv : vI s) (l1 : Int) (l1r : iR l1) (l2 : Int) (l2r : iR l2) (Q : Int → im_S → Prop) (hW : W_restOf l1 l2 s Q) : icI gG rm_P L ys 0 (d + 8) 87 [(2, ((582 : Nat) : Int)), (0, l1), (0, l2)] s (fun z9 s9 => vI s9 ∧ iR z9 ∧ Q z9 s9) := by
  refine ic_startM (M := rm_p_X10_restOf) om_X10_restOf (Nat.le_of_ble_eq_true rfl) ?_
  refine ir_w [(0, (2, ((582 : Nat) : Int))), (1, (0, l1)), (2, (0, l2))] ⟨rfl, rfl, rfl, trivial⟩ ?_
  have J92 : ∀ (l2 : Int) (l2r : iR l2) (l3 : Int) (l3r : iR l3) (l5 : Int) (l5r : iR l5) (l6 : Int) (l6r : iR l6) (I92 : im_S → Prop) (r92 : im_S → Nat) (hB92 : ∀ a : im_S, I92 a → W_restOf_92 (fun b => I92 b ∧ r92 b < r92 a) l2 l3 l5 l6 a Q), ∀ n92 : Nat, ∀ (s : im_S) (hv : vI s), I92 (s) → r92 (s) < n92 → ir gG rm_P L ys (d + 7) rm_p_X10_restOf (92, [(0, (2, ((582 : Nat) : Int))), (2, (0, l2)), (3, (0, l3)), (5, (0, l5)), (6, (0, l6))], [], s) (fun r : im_Re => ∃ z, r.1 = some (0, z) ∧ (vI r.2 ∧ iR z ∧ Q z r.2)) := by
    intro l2 l2r l3 l3r l5 l5r l6 l6r I92 r92 hB92 n92
    induction n92 with
    | zero => intro s hv hI hr; exact absurd hr (Nat.not_lt_zero _)
    | succ n92 ih92 =>
      intro s hv hI hr92
      obtain ⟨t92, ht92⟩ : ∃ t92 : im_S, t92 = (s) := ⟨_, rfl⟩
      rw [← ht92] at hr92
      have hW : W_restOf_92 (fun b => I92 b ∧ r92 b < r92 t92) l2 l3 l5 l6 s Q := by have z := hB92 (s) hI; rw [ht92]; exact z
      have J156 : ∀ (l7 : Int) (l7r : iR l7) (l9 : Int) (l9r : iR l9) (I156 : Int × im_S → Prop) (r156 : Int × im_S → Nat) (hB156 : ∀ a : Int × im_S, I156 a → W_restOf_156 (fun b => I92 b ∧ r92 b < r92 t92) (fun b => I156 b ∧ r156 b < r156 a) l2 l3 l5 l6 l7 l9 a.1 a.2 Q), ∀ n156 : Nat, ∀ (l10 : Int) (l10r : iR l10) (s : im_S) (hv : vI s), I156 (l10, s) → r156 (l10, s) < n156 → ir gG rm_P L ys (d + 7) rm_p_X10_restOf (156, [(0, (2, ((582 : Nat) : Int))), (2, (0, l2)), (3, (0, l3)), (5, (0, l5)), (6, (0, l6)), (7, (0, l7)), (9, (0, l9)), (10, (0, l10))], [], s) (fun r : im_Re => ∃ z, r.1 = some (0, z) ∧ (vI r.2 ∧ iR z ∧ Q z r.2)) := by
        intro l7 l7r l9 l9r I156 r156 hB156 n156
        induction n156 with
        | zero => intro l10 l10r s hv hI hr; exact absurd hr (Nat.not_lt_zero _)
        | succ n156 ih156 =>
          intro l10 l10r s hv hI hr156
          obtain ⟨t156, ht156⟩ : ∃ t156 : Int × im_S, t156 = (l10, s) := ⟨_, rfl⟩
          rw [← ht156] at hr156
          have hW : W_restOf_156 (fun b => I92 b ∧ r92 b < r92 t92) (fun b => I156 b ∧ r156 b < r156 t156) l2 l3 l5 l6 l7 l9 l10 s Q := by have z := hB156 (l10, s) hI; rw [ht156]; exact z
          have J220 : ∀ (l10 : Int) (l10r : iR l10) (k1 : Int) (k1r : iR k1) (k2 : Int) (k2r : iR k2) (k3 : Int) (k3r : iR k3) (s : im_S) (hv : vI s), W_restOf_220 (fun b => I92 b ∧ r92 b < r92 t92) (fun b => I156 b ∧ r156 b < r156 t156) l2 l3 l5 l6 l7 l9 l10 k1 k2 k3 s Q → ir gG rm_P L ys (d + 7) rm_p_X10_restOf (220, [(0, (2, ((582 : Nat) : Int))), (2, (0, l2)), (3, (0, l3)), (5, (0, l5)), (6, (0, l6)), (7, (0, l7)), (9, (0, l9)), (10, (0, l10))], [(0, k3), (0, k2), (0, k1), (2, ((582 : Nat) : Int))], s) (fun r : im_Re => ∃ z, r.1 = some (0, z) ∧ (vI r.2 ∧ iR z ∧ Q z r.2)) := by
            intro l10 l10r k1 k1r k2 k2r k3 k3r s hv hW
            unfold W_restOf_220 at hW
            refine ir_cVV (pc' := 223) rfl rfl rfl rfl rfl (Nat.le_of_ble_eq_true rfl) oo_X10_set vg_582 (w_set L ys (d + 6) s hv k1 k1r k2 k2r k3 k3r _ hW) (fun s1 hr => ?_)
            obtain ⟨s1v, hW⟩ := hr
            obtain ⟨h3, hW⟩ := hW
            refine ir_inc (pc' := 226) rfl rfl rfl rfl rfl h3.1 h3.2 ?_
            refine ir_goto (pc' := 156) rfl rfl ?_
            refine ir_w [(0, (2, ((582 : Nat) : Int))), (2, (0, l2)), (3, (0, l3)), (5, (0, l5)), (6, (0, l6)), (7, (0, l7)), (9, (0, l9)), (10, (0, (l10 + 1)))] ⟨rfl, rfl, rfl, rfl, rfl, rfl, rfl, rfl, trivial⟩ ?_
            exact ih156 (l10 + 1) h3 s1 s1v hW.1 (Nat.lt_of_lt_of_le hW.2 (Nat.le_of_lt_succ hr156))
          unfold W_restOf_156 at hW
          obtain ⟨h4, hW⟩ := hW
          refine ir_l (pc' := 158) rfl rfl rfl rfl rfl rfl ?_
          refine ir_l (pc' := 159) rfl rfl rfl rfl rfl rfl ?_
          refine ir_vgr (pc' := 162) (c := 598) rfl rfl rfl rfl rfl hv ?_
          refine ir_l (pc' := 163) rfl rfl rfl rfl rfl rfl ?_
          refine ir_via (pc' := 164) rfl rfl vg_598 rfl (Nat.le_of_ble_eq_true rfl) hv rfl h4 (fun r5 => ?_)
          refine ir_c_ge (pt := 229) (pc' := 167) rfl rfl rfl (fun c6 => ?_) (fun c6 => ?_)
          · have hW := hW.1 c6
            obtain ⟨h7, h9, h10, hW⟩ := hW
            refine ir_l (pc' := 230) rfl rfl rfl rfl rfl rfl ?_
            refine ir_vgr (pc' := 233) (c := 598) rfl rfl rfl rfl rfl hv ?_
            refine ir_l (pc' := 234) rfl rfl rfl rfl rfl rfl ?_
            refine ir_x (pc' := 235) rfl rfl rfl (fun _ => rfl) ?_
            refine ir_via (pc' := 236) rfl rfl vg_598 rfl (Nat.le_of_ble_eq_true rfl) hv rfl h7 (fun r8 => ?_)
            refine ir_k (pc' := 237) (v := (0, 1)) rfl rfl rfl (fun _ => rfl) ?_
            refine ir_sub (pc' := 238) rfl rfl h9.1 h9.2 ?_
            refine ir_vis (pc' := 239) rfl rfl vg_598 rfl (Nat.le_of_ble_eq_true rfl) hv rfl h10 h9 (fun s11 s11e s11v => ?_)
            have hW := hW s11 s11e
            refine ir_l (pc' := 240) rfl rfl rfl rfl rfl rfl ?_
            refine ir_l (pc' := 241) rfl rfl rfl rfl rfl rfl ?_
            refine ir_k (pc' := 242) (v := (0, 0)) rfl rfl rfl (fun _ => rfl) ?_
            refine ir_cVV (pc' := 245) rfl rfl rfl rfl rfl (Nat.le_of_ble_eq_true rfl) oo_X10_clean vg_582 (w_clean L ys d s11 s11v l3 l3r 0 (Or.inl rfl) _ hW) (fun s12 hr => ?_)
            obtain ⟨s12v, hW⟩ := hr
            refine ir_goto (pc' := 92) rfl rfl ?_
            refine ir_w [(0, (2, ((582 : Nat) : Int))), (2, (0, l2)), (3, (0, l3)), (5, (0, l5)), (6, (0, l6))] ⟨rfl, rfl, rfl, rfl, rfl, trivial⟩ ?_
            exact ih92 s12 s12v hW.1 (Nat.lt_of_lt_of_le hW.2 (Nat.le_of_lt_succ hr92))
          · have hW := hW.2 c6
            refine ir_l (pc' := 168) rfl rfl rfl rfl rfl rfl ?_
            refine ir_l (pc' := 169) rfl rfl rfl rfl rfl rfl ?_
            refine ir_l (pc' := 170) rfl rfl rfl rfl rfl rfl ?_
            refine ir_l (pc' := 172) rfl rfl rfl rfl rfl rfl ?_
            refine ir_cVI (pc' := 175) rfl rfl rfl rfl rfl (Nat.le_of_ble_eq_true rfl) oo_X10_at vg_582 (w_at L ys (d + 6) s hv l3 l3r l10 l10r _ hW) (fun z15 s14 hr => ?_)
            obtain ⟨s14v, z15r, hW⟩ := hr
            refine ir_l (pc' := 177) rfl rfl rfl rfl rfl rfl ?_
            refine ir_cVI (pc' := 180) rfl rfl rfl rfl rfl (Nat.le_of_ble_eq_true rfl) oo_X10_by vg_582 (w_by L ys (d + 5) s14 s14v z15 z15r l6 l6r _ hW) (fun z17 s16 hr => ?_)
            obtain ⟨s16v, z17r, hW⟩ := hr
            refine ir_s (pc' := 182) rfl rfl rfl rfl rfl rfl ?_
            refine ir_l (pc' := 183) rfl rfl rfl rfl rfl rfl ?_
            refine ir_l (pc' := 184) rfl rfl rfl rfl rfl rfl ?_
            refine ir_l (pc' := 186) rfl rfl rfl rfl rfl rfl ?_
            refine ir_l (pc' := 188) rfl rfl rfl rfl rfl rfl ?_
            refine ir_l (pc' := 190) rfl rfl rfl rfl rfl rfl ?_
            refine ir_c_ge (pt := 198) (pc' := 193) rfl rfl rfl (fun c18 => ?_) (fun c18 => ?_)
            · have hW := hW.1 c18
              obtain ⟨h19, hW⟩ := hW
              refine ir_l (pc' := 199) rfl rfl rfl rfl rfl rfl ?_
              refine ir_l (pc' := 201) rfl rfl rfl rfl rfl rfl ?_
              refine ir_l (pc' := 202) rfl rfl rfl rfl rfl rfl ?_
              refine ir_l (pc' := 204) rfl rfl rfl rfl rfl rfl ?_
              refine ir_l (pc' := 205) rfl rfl rfl rfl rfl rfl ?_
              refine ir_l (pc' := 206) rfl rfl rfl rfl rfl rfl ?_
              refine ir_l (pc' := 208) rfl rfl rfl rfl rfl rfl ?_
              refine ir_l (pc' := 210) rfl rfl rfl rfl rfl rfl ?_
              refine ir_sub (pc' := 211) rfl rfl h19.1 h19.2 ?_
              refine ir_cVI (pc' := 214) rfl rfl rfl rfl rfl (Nat.le_of_ble_eq_true rfl) oo_X10_at vg_582 (w_at L ys (d + 6) s16 s16v l2 l2r (l10 - l7) h19 _ hW) (fun z21 s20 hr => ?_)
              obtain ⟨s20v, z21r, hW⟩ := hr
              refine ir_cVI (pc' := 217) rfl rfl rfl rfl rfl (Nat.le_of_ble_eq_true rfl) oo_X10_by vg_582 (w_by L ys (d + 5) s20 s20v l9 l9r z21 z21r _ hW) (fun z23 s22 hr => ?_)
              obtain ⟨s22v, z23r, hW⟩ := hr
              refine ir_cVI (pc' := 220) rfl rfl rfl rfl rfl (Nat.le_of_ble_eq_true rfl) oo_X10_minus vg_582 (w_minus L ys (d + 2) s22 s22v z17 z17r z23 z23r _ hW) (fun z25 s24 hr => ?_)
              obtain ⟨s24v, z25r, hW⟩ := hr
              refine ir_w [(0, (2, ((582 : Nat) : Int))), (2, (0, l2)), (3, (0, l3)), (5, (0, l5)), (6, (0, l6)), (7, (0, l7)), (9, (0, l9)), (10, (0, l10))] ⟨rfl, rfl, rfl, rfl, rfl, rfl, rfl, rfl, trivial⟩ ?_
              exact J220 l10 l10r l3 l3r l10 l10r z25 z25r s24 s24v hW
            · have hW := hW.2 c18
              refine ir_l (pc' := 195) rfl rfl rfl rfl rfl rfl ?_
              refine ir_goto (pc' := 220) rfl rfl ?_
              refine ir_w [(0, (2, ((582 : Nat) : Int))), (2, (0, l2)), (3, (0, l3)), (5, (0, l5)), (6, (0, l6)), (7, (0, l7)), (9, (0, l9)), (10, (0, l10))] ⟨rfl, rfl, rfl, rfl, rfl, rfl, rfl, rfl, trivial⟩ ?_
              exact J220 l10 l10r l3 l3r l10 l10r z17 z17r s16 s16v hW
      have J151 : ∀ (l7 : Int) (l7r : iR l7) (k0 : Int) (k0r : iR k0) (s : im_S) (hv : vI s), W_restOf_151 (fun b => I92 b ∧ r92 b < r92 t92) l2 l3 l5 l6 l7 k0 s Q → ir gG rm_P L ys (d + 7) rm_p_X10_restOf (151, [(0, (2, ((582 : Nat) : Int))), (2, (0, l2)), (3, (0, l3)), (5, (0, l5)), (6, (0, l6)), (7, (0, l7))], [(0, k0)], s) (fun r : im_Re => ∃ z, r.1 = some (0, z) ∧ (vI r.2 ∧ iR z ∧ Q z r.2)) := by
        intro l7 l7r k0 k0r s hv hW
        unfold W_restOf_151 at hW
        refine ir_s (pc' := 153) rfl rfl rfl rfl rfl rfl ?_
        refine ir_k (pc' := 154) (v := (0, 0)) rfl rfl rfl (fun _ => rfl) ?_
        refine ir_s (pc' := 156) rfl rfl rfl rfl rfl rfl ?_
        refine ir_w [(0, (2, ((582 : Nat) : Int))), (2, (0, l2)), (3, (0, l3)), (5, (0, l5)), (6, (0, l6)), (7, (0, l7)), (9, (0, k0)), (10, (0, 0))] ⟨rfl, rfl, rfl, rfl, rfl, rfl, rfl, rfl, trivial⟩ ?_
        obtain ⟨I9, r9, hI9, hB9⟩ := hW
        exact J156 l7 l7r k0 k0r I9 r9 hB9 _ 0 (zR_i (Or.inl rfl)) s hv hI9 (Nat.lt_succ_self _)
      unfold W_restOf_92 at hW
      obtain ⟨h26, h28, hW⟩ := hW
      refine ir_l (pc' := 93) rfl rfl rfl rfl rfl rfl ?_
      refine ir_vgr (pc' := 96) (c := 598) rfl rfl rfl rfl rfl hv ?_
      refine ir_l (pc' := 97) rfl rfl rfl rfl rfl rfl ?_
      refine ir_via (pc' := 98) rfl rfl vg_598 rfl (Nat.le_of_ble_eq_true rfl) hv rfl h26 (fun r27 => ?_)
      refine ir_l (pc' := 99) rfl rfl rfl rfl rfl rfl ?_
      refine ir_vgr (pc' := 102) (c := 598) rfl rfl rfl rfl rfl hv ?_
      refine ir_l (pc' := 103) rfl rfl rfl rfl rfl rfl ?_
      refine ir_via (pc' := 104) rfl rfl vg_598 rfl (Nat.le_of_ble_eq_true rfl) hv rfl h28 (fun r29 => ?_)
      refine ir_c_lt (pt := 248) (pc' := 107) rfl rfl rfl (fun c30 => ?_) (fun c30 => ?_)
      · have hW := hW.1 c30
        refine ir_l (pc' := 249) rfl rfl rfl rfl rfl rfl ?_
        exact ir_iret rfl rfl ⟨_, rfl, hv, l3r, hW⟩
      · have hW := hW.2 c30
        obtain ⟨h31, h33, h35, hW⟩ := hW
        refine ir_l (pc' := 108) rfl rfl rfl rfl rfl rfl ?_
        refine ir_vgr (pc' := 111) (c := 598) rfl rfl rfl rfl rfl hv ?_
        refine ir_l (pc' := 112) rfl rfl rfl rfl rfl rfl ?_
        refine ir_via (pc' := 113) rfl rfl vg_598 rfl (Nat.le_of_ble_eq_true rfl) hv rfl h31 (fun r32 => ?_)
        refine ir_l (pc' := 114) rfl rfl rfl rfl rfl rfl ?_
        refine ir_vgr (pc' := 117) (c := 598) rfl rfl rfl rfl rfl hv ?_
        refine ir_l (pc' := 118) rfl rfl rfl rfl rfl rfl ?_
        refine ir_via (pc' := 119) rfl rfl vg_598 rfl (Nat.le_of_ble_eq_true rfl) hv rfl h33 (fun r34 => ?_)
        refine ir_sub (pc' := 120) rfl rfl h35.1 h35.2 ?_
        refine ir_s (pc' := 122) rfl rfl rfl rfl rfl rfl ?_
        refine ir_l (pc' := 123) rfl rfl rfl rfl rfl rfl ?_
        refine ir_l (pc' := 124) rfl rfl rfl rfl rfl rfl ?_
        refine ir_l (pc' := 125) rfl rfl rfl rfl rfl rfl ?_
        refine ir_vgr (pc' := 128) (c := 598) rfl rfl rfl rfl rfl hv ?_
        refine ir_l (pc' := 129) rfl rfl rfl rfl rfl rfl ?_
        refine ir_via (pc' := 130) rfl rfl vg_598 rfl (Nat.le_of_ble_eq_true rfl) hv rfl h31 (fun r36 => ?_)
        refine ir_cVI (pc' := 133) rfl rfl rfl rfl rfl (Nat.le_of_ble_eq_true rfl) oo_X10_at vg_582 (w_at L ys (d + 6) s hv l3 l3r (wga s 598 l3) r36 _ hW) (fun z38 s37 hr => ?_)
        obtain ⟨s37v, z38r, hW⟩ := hr
        refine ir_s (pc' := 135) rfl rfl rfl rfl rfl rfl ?_
        refine ir_l (pc' := 137) rfl rfl rfl rfl rfl rfl ?_
        refine ir_z_eq (pt := 149) (pc' := 140) rfl rfl rfl (fun c39 => ?_) (fun c39 => ?_)
        · have hW := hW.1 c39
          refine ir_l (pc' := 151) rfl rfl rfl rfl rfl rfl ?_
          refine ir_w [(0, (2, ((582 : Nat) : Int))), (2, (0, l2)), (3, (0, l3)), (5, (0, l5)), (6, (0, l6)), (7, (0, ((wga s 598 l3) - (wga s 598 l2))))] ⟨rfl, rfl, rfl, rfl, rfl, rfl, trivial⟩ ?_
          exact J151 ((wga s 598 l3) - (wga s 598 l2)) h35 z38 z38r s37 s37v hW
        · have hW := hW.2 c39
          refine ir_l (pc' := 141) rfl rfl rfl rfl rfl rfl ?_
          refine ir_l (pc' := 143) rfl rfl rfl rfl rfl rfl ?_
          refine ir_cVI (pc' := 146) rfl rfl rfl rfl rfl (Nat.le_of_ble_eq_true rfl) oo_X10_less vg_582 (w_less L ys (d + 3) s37 s37v z38 z38r _ hW) (fun z41 s40 hr => ?_)
          obtain ⟨s40v, z41r, hW⟩ := hr
          refine ir_goto (pc' := 151) rfl rfl ?_
          refine ir_w [(0, (2, ((582 : Nat) : Int))), (2, (0, l2)), (3, (0, l3)), (5, (0, l5)), (6, (0, l6)), (7, (0, ((wga s 598 l3) - (wga s 598 l2))))] ⟨rfl, rfl, rfl, rfl, rfl, rfl, trivial⟩ ?_
          exact J151 ((wga s 598 l3) - (wga s 598 l2)) h35 z41 z41r s40 s40v hW
  have J90 : ∀ (l2 : Int) (l2r : iR l2) (l3 : Int) (l3r : iR l3) (l5 : Int) (l5r : iR l5) (k0 : Int) (k0r : iR k0) (s : im_S) (hv : vI s), W_restOf_90 l2 l3 l5 k0 s Q → ir gG rm_P L ys (d + 7) rm_p_X10_restOf (90, [(0, (2, ((582 : Nat) : Int))), (2, (0, l2)), (3, (0, l3)), (5, (0, l5))], [(0, k0)], s) (fun r : im_Re => ∃ z, r.1 = some (0, z) ∧ (vI r.2 ∧ iR z ∧ Q z r.2)) := by
    intro l2 l2r l3 l3r l5 l5r k0 k0r s hv hW
    unfold W_restOf_90 at hW
    refine ir_s (pc' := 92) rfl rfl rfl rfl rfl rfl ?_
    refine ir_w [(0, (2, ((582 : Nat) : Int))), (2, (0, l2)), (3, (0, l3)), (5, (0, l5)), (6, (0, k0))] ⟨rfl, rfl, rfl, rfl, rfl, trivial⟩ ?_
    obtain ⟨I9, r9, hI9, hB9⟩ := hW
    exact J92 l2 l2r l3 l3r l5 l5r k0 k0r I9 r9 hB9 _ s hv hI9 (Nat.lt_succ_self _)
  have J14 : ∀ (l1 : Int) (l1r : iR l1) (l2 : Int) (l2r : iR l2) (l3 : Int) (l3r : iR l3) (I14 : Int × im_S → Prop) (r14 : Int × im_S → Nat) (hB14 : ∀ a : Int × im_S, I14 a → W_restOf_14 (fun b => I14 b ∧ r14 b < r14 a) l1 l2 l3 a.1 a.2 Q), ∀ n14 : Nat, ∀ (l4 : Int) (l4r : iR l4) (s : im_S) (hv : vI s), I14 (l4, s) → r14 (l4, s) < n14 → ir gG rm_P L ys (d + 7) rm_p_X10_restOf (14, [(0, (2, ((582 : Nat) : Int))), (1, (0, l1)), (2, (0, l2)), (3, (0, l3)), (4, (0, l4))], [], s) (fun r : im_Re => ∃ z, r.1 = some (0, z) ∧ (vI r.2 ∧ iR z ∧ Q z r.2)) := by
    intro l1 l1r l2 l2r l3 l3r I14 r14 hB14 n14
    induction n14 with
    | zero => intro l4 l4r s hv hI hr; exact absurd hr (Nat.not_lt_zero _)
    | succ n14 ih14 =>
      intro l4 l4r s hv hI hr14
      obtain ⟨t14, ht14⟩ : ∃ t14 : Int × im_S, t14 = (l4, s) := ⟨_, rfl⟩
      rw [← ht14] at hr14
      have hW : W_restOf_14 (fun b => I14 b ∧ r14 b < r14 t14) l1 l2 l3 l4 s Q := by have z := hB14 (l4, s) hI; rw [ht14]; exact z
      unfold W_restOf_14 at hW
      obtain ⟨h42, hW⟩ := hW
      refine ir_l (pc' := 16) rfl rfl rfl rfl rfl rfl ?_
      refine ir_l (pc' := 17) rfl rfl rfl rfl rfl rfl ?_
      refine ir_vgr (pc' := 20) (c := 598) rfl rfl rfl rfl rfl hv ?_
      refine ir_l (pc' := 21) rfl rfl rfl rfl rfl rfl ?_
      refine ir_via (pc' := 22) rfl rfl vg_598 rfl (Nat.le_of_ble_eq_true rfl) hv rfl h42 (fun r43 => ?_)
      refine ir_c_gt (pt := 45) (pc' := 25) rfl rfl rfl (fun c44 => ?_) (fun c44 => ?_)
      · have hW := hW.1 c44
        obtain ⟨h45, hW⟩ := hW
        refine ir_l (pc' := 46) rfl rfl rfl rfl rfl rfl ?_
        refine ir_l (pc' := 47) rfl rfl rfl rfl rfl rfl ?_
        refine ir_l (pc' := 48) rfl rfl rfl rfl rfl rfl ?_
        refine ir_vgr (pc' := 51) (c := 598) rfl rfl rfl rfl rfl hv ?_
        refine ir_l (pc' := 52) rfl rfl rfl rfl rfl rfl ?_
        refine ir_via (pc' := 53) rfl rfl vg_598 rfl (Nat.le_of_ble_eq_true rfl) hv rfl h45 (fun r46 => ?_)
        refine ir_cVI (pc' := 56) rfl rfl rfl rfl rfl (Nat.le_of_ble_eq_true rfl) oo_X10_at vg_582 (w_at L ys (d + 6) s hv l2 l2r (wga s 598 l2) r46 _ hW) (fun z48 s47 hr => ?_)
        obtain ⟨s47v, z48r, hW⟩ := hr
        refine ir_s (pc' := 58) rfl rfl rfl rfl rfl rfl ?_
        refine ir_l (pc' := 59) rfl rfl rfl rfl rfl rfl ?_
        refine ir_l (pc' := 61) rfl rfl rfl rfl rfl rfl ?_
        refine ir_cVI (pc' := 64) rfl rfl rfl rfl rfl (Nat.le_of_ble_eq_true rfl) oo_X10_sgn vg_582 (w_sgn L ys (d + 6) s47 s47v z48 z48r _ hW) (fun z50 s49 hr => ?_)
        obtain ⟨s49v, z50r, hW⟩ := hr
        have J252 : ∀ v251 : Int, zR v251 → (((v251 = 0 → (W_restOf_90 l2 l3 v251 z48 s49 Q)) ∧ (¬ (v251 = 0) → (W_less z48 s49 (fun z255 s254 => (W_restOf_90 l2 l3 v251 z255 s254 Q)))))) → ir gG rm_P L ys (d + 7) rm_p_X10_restOf (72, [(0, (2, ((582 : Nat) : Int))), (2, (0, l2)), (3, (0, l3)), (4, (0, z48))], [(0, v251)], s49) (fun r : im_Re => ∃ z, r.1 = some (0, z) ∧ (vI r.2 ∧ iR z ∧ Q z r.2)) := by
          intro v251 v251r hW
          refine ir_s (pc' := 74) rfl rfl rfl rfl rfl rfl ?_
          refine ir_l (pc' := 76) rfl rfl rfl rfl rfl rfl ?_
          refine ir_z_eq (pt := 88) (pc' := 79) rfl rfl rfl (fun c253 => ?_) (fun c253 => ?_)
          · have hW := hW.1 c253
            refine ir_l (pc' := 90) rfl rfl rfl rfl rfl rfl ?_
            refine ir_w [(0, (2, ((582 : Nat) : Int))), (2, (0, l2)), (3, (0, l3)), (5, (0, v251))] ⟨rfl, rfl, rfl, rfl, trivial⟩ ?_
            exact J90 l2 l2r l3 l3r v251 (zR_i v251r) z48 z48r s49 s49v hW
          · have hW := hW.2 c253
            refine ir_l (pc' := 80) rfl rfl rfl rfl rfl rfl ?_
            refine ir_l (pc' := 82) rfl rfl rfl rfl rfl rfl ?_
            refine ir_cVI (pc' := 85) rfl rfl rfl rfl rfl (Nat.le_of_ble_eq_true rfl) oo_X10_less vg_582 (w_less L ys (d + 3) s49 s49v z48 z48r _ hW) (fun z255 s254 hr => ?_)
            obtain ⟨s254v, z255r, hW⟩ := hr
            refine ir_goto (pc' := 90) rfl rfl ?_
            refine ir_w [(0, (2, ((582 : Nat) : Int))), (2, (0, l2)), (3, (0, l3)), (5, (0, v251))] ⟨rfl, rfl, rfl, rfl, trivial⟩ ?_
            exact J90 l2 l2r l3 l3r v251 (zR_i v251r) z255 z255r s254 s254v hW
        refine ir_z_ge (pt := 71) (pc' := 67) rfl rfl rfl (fun c51 => ?_) (fun c51 => ?_)
        · refine ir_k (pc' := 72) (v := (0, 0)) rfl rfl rfl (fun _ => rfl) ?_
          refine ir_w [(0, (2, ((582 : Nat) : Int))), (2, (0, l2)), (3, (0, l3)), (4, (0, z48))] ⟨rfl, rfl, rfl, rfl, trivial⟩ ?_
          exact J252 0 (Or.inl rfl) (hW _ (by rw [if_pos c51]))
        · refine ir_k (pc' := 68) (v := (0, 1)) rfl rfl rfl (fun _ => rfl) ?_
          refine ir_goto (pc' := 72) rfl rfl ?_
          refine ir_w [(0, (2, ((582 : Nat) : Int))), (2, (0, l2)), (3, (0, l3)), (4, (0, z48))] ⟨rfl, rfl, rfl, rfl, trivial⟩ ?_
          exact J252 1 (Or.inr rfl) (hW _ (by rw [if_neg (fun z => c51 z)]))
      · have hW := hW.2 c44
        refine ir_l (pc' := 26) rfl rfl rfl rfl rfl rfl ?_
        refine ir_l (pc' := 27) rfl rfl rfl rfl rfl rfl ?_
        refine ir_l (pc' := 29) rfl rfl rfl rfl rfl rfl ?_
        refine ir_l (pc' := 30) rfl rfl rfl rfl rfl rfl ?_
        refine ir_l (pc' := 31) rfl rfl rfl rfl rfl rfl ?_
        refine ir_l (pc' := 33) rfl rfl rfl rfl rfl rfl ?_
        refine ir_cVI (pc' := 36) rfl rfl rfl rfl rfl (Nat.le_of_ble_eq_true rfl) oo_X10_at vg_582 (w_at L ys (d + 6) s hv l1 l1r l4 l4r _ hW) (fun z257 s256 hr => ?_)
        obtain ⟨s256v, z257r, hW⟩ := hr
        refine ir_cVV (pc' := 39) rfl rfl rfl rfl rfl (Nat.le_of_ble_eq_true rfl) oo_X10_set vg_582 (w_set L ys (d + 6) s256 s256v l3 l3r l4 l4r z257 z257r _ hW) (fun s258 hr => ?_)
        obtain ⟨s258v, hW⟩ := hr
        obtain ⟨h260, hW⟩ := hW
        refine ir_inc (pc' := 42) rfl rfl rfl rfl rfl h260.1 h260.2 ?_
        refine ir_goto (pc' := 14) rfl rfl ?_
        refine ir_w [(0, (2, ((582 : Nat) : Int))), (1, (0, l1)), (2, (0, l2)), (3, (0, l3)), (4, (0, (l4 + 1)))] ⟨rfl, rfl, rfl, rfl, rfl, trivial⟩ ?_
        exact ih14 (l4 + 1) h260 s258 s258v hW.1 (Nat.lt_of_lt_of_le hW.2 (Nat.le_of_lt_succ hr14))
  unfold W_restOf at hW
  obtain ⟨h261, hW⟩ := hW
  refine ir_l (pc' := 1) rfl rfl rfl rfl rfl rfl ?_
  refine ir_l (pc' := 2) rfl rfl rfl rfl rfl rfl ?_
  refine ir_vgr (pc' := 5) (c := 598) rfl rfl rfl rfl rfl hv ?_
  refine ir_l (pc' := 6) rfl rfl rfl rfl rfl rfl ?_
  refine ir_via (pc' := 7) rfl rfl vg_598 rfl (Nat.le_of_ble_eq_true rfl) hv rfl h261 (fun r262 => ?_)
  refine ir_cVI (pc' := 10) rfl rfl rfl rfl rfl (Nat.le_of_ble_eq_true rfl) oo_X10_newPolynomial vg_582 (w_newPolynomial L ys (d + 6) s hv (wga s 598 l1) r262 _ hW) (fun z264 s263 hr => ?_)
  obtain ⟨s263v, z264r, hW⟩ := hr
  refine ir_s (pc' := 11) rfl rfl rfl rfl rfl rfl ?_
  refine ir_k (pc' := 12) (v := (0, 0)) rfl rfl rfl (fun _ => rfl) ?_
  refine ir_s (pc' := 14) rfl rfl rfl rfl rfl rfl ?_
  refine ir_w [(0, (2, ((582 : Nat) : Int))), (1, (0, l1)), (2, (0, l2)), (3, (0, z264)), (4, (0, 0))] ⟨rfl, rfl, rfl, rfl, rfl, trivial⟩ ?_
  obtain ⟨I9, r9, hI9, hB9⟩ := hW
  exact J14 l1 l1r l2 l2r z264 z264r I9 r9 hB9 _ 0 (zR_i (Or.inl rfl)) s263 s263v hI9 (Nat.lt_succ_self _)
def W_common2_49 (K49 : Int × im_S → Prop) (l3 : Int) (l5 : Int) (l6 : Int) (s : im_S) (Q : Int → im_S → Prop) : Prop := ((0 ≤ l3 ∧ l3 < 1200) ∧ (((wga s 598 l3) < l6 → (W_clean l5 1 s (fun s4 => (Q l5 s4)))) ∧ (¬ ((wga s 598 l3) < l6) → (W_at l3 l6 s (fun z7 s6 => (W_set l5 l6 z7 s6 (fun s8 => ((iR (l6 + 1)) ∧ (K49 ((l6 + 1), s8))))))))))
def W_common2_5 (K5 : Int × Int × im_S → Prop) (l3 : Int) (l4 : Int) (s : im_S) (Q : Int → im_S → Prop) : Prop := ((0 ≤ l4 ∧ l4 < 1200) ∧ (((wga s 598 l4) < 0 → ((0 ≤ l3 ∧ l3 < 1200) ∧ (W_newPolynomial (wga s 598 l3) s (fun z17 s16 => (wloop (fun (K : Int × im_S → Prop) (a : Int × im_S) => W_common2_49 K l3 z17 a.1 a.2 Q) (0, s16)))))) ∧ (¬ ((wga s 598 l4) < 0) → (W_restOf l3 l4 s (fun z19 s18 => (K5 (l4, z19, s18)))))))
def W_common2 (l1 : Int) (l2 : Int) (s : im_S) (Q : Int → im_S → Prop) : Prop := (wloop (fun (K : Int × Int × im_S → Prop) (a : Int × Int × im_S) => W_common2_5 K a.1 a.2.1 a.2.2 Q) (l1, l2, s))
set_option maxRecDepth 16384 in
theorem w_common2 (L : Nat) (ys : Nat → Int32) (d : Nat) (s : im_S) (hv : vI s) (l1 : Int) (l1r : iR l1) (l2 : Int) (l2r : iR l2) (Q : Int → im_S → Prop) (hW : W_common2 l1 l2 s Q) : icI gG rm_P L ys 0 (d + 9) 22 [(2, ((582 : Nat) : Int)), (0, l1), (0, l2)] s (fun z9 s9 => vI s9 ∧ iR z9 ∧ Q z9 s9) := by
  refine ic_startM (M := rm_p_X10_common2) om_X10_common2 (Nat.le_of_ble_eq_true rfl) ?_
  refine ir_w [(0, (2, ((582 : Nat) : Int))), (1, (0, l1)), (2, (0, l2))] ⟨rfl, rfl, rfl, trivial⟩ ?_
  have J49 : ∀ (l3 : Int) (l3r : iR l3) (l5 : Int) (l5r : iR l5) (I49 : Int × im_S → Prop) (r49 : Int × im_S → Nat) (hB49 : ∀ a : Int × im_S, I49 a → W_common2_49 (fun b => I49 b ∧ r49 b < r49 a) l3 l5 a.1 a.2 Q), ∀ n49 : Nat, ∀ (l6 : Int) (l6r : iR l6) (s : im_S) (hv : vI s), I49 (l6, s) → r49 (l6, s) < n49 → ir gG rm_P L ys (d + 8) rm_p_X10_common2 (49, [(0, (2, ((582 : Nat) : Int))), (3, (0, l3)), (5, (0, l5)), (6, (0, l6))], [], s) (fun r : im_Re => ∃ z, r.1 = some (0, z) ∧ (vI r.2 ∧ iR z ∧ Q z r.2)) := by
    intro l3 l3r l5 l5r I49 r49 hB49 n49
    induction n49 with
    | zero => intro l6 l6r s hv hI hr; exact absurd hr (Nat.not_lt_zero _)
    | succ n49 ih49 =>
      intro l6 l6r s hv hI hr49
      obtain ⟨t49, ht49⟩ : ∃ t49 : Int × im_S, t49 = (l6, s) := ⟨_, rfl⟩
      rw [← ht49] at hr49
      have hW : W_common2_49 (fun b => I49 b ∧ r49 b < r49 t49) l3 l5 l6 s Q := by have z := hB49 (l6, s) hI; rw [ht49]; exact z
      unfold W_common2_49 at hW
      obtain ⟨h1, hW⟩ := hW
      refine ir_l (pc' := 51) rfl rfl rfl rfl rfl rfl ?_
      refine ir_l (pc' := 52) rfl rfl rfl rfl rfl rfl ?_
      refine ir_vgr (pc' := 55) (c := 598) rfl rfl rfl rfl rfl hv ?_
      refine ir_l (pc' := 56) rfl rfl rfl rfl rfl rfl ?_
      refine ir_via (pc' := 57) rfl rfl vg_598 rfl (Nat.le_of_ble_eq_true rfl) hv rfl h1 (fun r2 => ?_)
      refine ir_c_gt (pt := 81) (pc' := 60) rfl rfl rfl (fun c3 => ?_) (fun c3 => ?_)
      · have hW := hW.1 c3
        refine ir_l (pc' := 82) rfl rfl rfl rfl rfl rfl ?_
        refine ir_l (pc' := 84) rfl rfl rfl rfl rfl rfl ?_
        refine ir_k (pc' := 85) (v := (0, 1)) rfl rfl rfl (fun _ => rfl) ?_
        refine ir_cVV (pc' := 88) rfl rfl rfl rfl rfl (Nat.le_of_ble_eq_true rfl) oo_X10_clean vg_582 (w_clean L ys (d + 1) s hv l5 l5r 1 (Or.inr rfl) _ hW) (fun s4 hr => ?_)
        obtain ⟨s4v, hW⟩ := hr
        refine ir_l (pc' := 90) rfl rfl rfl rfl rfl rfl ?_
        exact ir_iret rfl rfl ⟨_, rfl, s4v, l5r, hW⟩
      · have hW := hW.2 c3
        refine ir_l (pc' := 61) rfl rfl rfl rfl rfl rfl ?_
        refine ir_l (pc' := 63) rfl rfl rfl rfl rfl rfl ?_
        refine ir_l (pc' := 65) rfl rfl rfl rfl rfl rfl ?_
        refine ir_l (pc' := 66) rfl rfl rfl rfl rfl rfl ?_
        refine ir_l (pc' := 67) rfl rfl rfl rfl rfl rfl ?_
        refine ir_l (pc' := 69) rfl rfl rfl rfl rfl rfl ?_
        refine ir_cVI (pc' := 72) rfl rfl rfl rfl rfl (Nat.le_of_ble_eq_true rfl) oo_X10_at vg_582 (w_at L ys (d + 7) s hv l3 l3r l6 l6r _ hW) (fun z7 s6 hr => ?_)
        obtain ⟨s6v, z7r, hW⟩ := hr
        refine ir_cVV (pc' := 75) rfl rfl rfl rfl rfl (Nat.le_of_ble_eq_true rfl) oo_X10_set vg_582 (w_set L ys (d + 7) s6 s6v l5 l5r l6 l6r z7 z7r _ hW) (fun s8 hr => ?_)
        obtain ⟨s8v, hW⟩ := hr
        obtain ⟨h10, hW⟩ := hW
        refine ir_inc (pc' := 78) rfl rfl rfl rfl rfl h10.1 h10.2 ?_
        refine ir_goto (pc' := 49) rfl rfl ?_
        refine ir_w [(0, (2, ((582 : Nat) : Int))), (3, (0, l3)), (5, (0, l5)), (6, (0, (l6 + 1)))] ⟨rfl, rfl, rfl, rfl, trivial⟩ ?_
        exact ih49 (l6 + 1) h10 s8 s8v hW.1 (Nat.lt_of_lt_of_le hW.2 (Nat.le_of_lt_succ hr49))
  have J5 : ∀ (I5 : Int × Int × im_S → Prop) (r5 : Int × Int × im_S → Nat) (hB5 : ∀ a : Int × Int × im_S, I5 a → W_common2_5 (fun b => I5 b ∧ r5 b < r5 a) a.1 a.2.1 a.2.2 Q), ∀ n5 : Nat, ∀ (l3 : Int) (l3r : iR l3) (l4 : Int) (l4r : iR l4) (s : im_S) (hv : vI s), I5 (l3, l4, s) → r5 (l3, l4, s) < n5 → ir gG rm_P L ys (d + 8) rm_p_X10_common2 (5, [(0, (2, ((582 : Nat) : Int))), (3, (0, l3)), (4, (0, l4))], [], s) (fun r : im_Re => ∃ z, r.1 = some (0, z) ∧ (vI r.2 ∧ iR z ∧ Q z r.2)) := by
    intro I5 r5 hB5 n5
    induction n5 with
    | zero => intro l3 l3r l4 l4r s hv hI hr; exact absurd hr (Nat.not_lt_zero _)
    | succ n5 ih5 =>
      intro l3 l3r l4 l4r s hv hI hr5
      obtain ⟨t5, ht5⟩ : ∃ t5 : Int × Int × im_S, t5 = (l3, l4, s) := ⟨_, rfl⟩
      rw [← ht5] at hr5
      have hW : W_common2_5 (fun b => I5 b ∧ r5 b < r5 t5) l3 l4 s Q := by have z := hB5 (l3, l4, s) hI; rw [ht5]; exact z
      unfold W_common2_5 at hW
      obtain ⟨h11, hW⟩ := hW
      refine ir_l (pc' := 6) rfl rfl rfl rfl rfl rfl ?_
      refine ir_vgr (pc' := 9) (c := 598) rfl rfl rfl rfl rfl hv ?_
      refine ir_l (pc' := 11) rfl rfl rfl rfl rfl rfl ?_
      refine ir_via (pc' := 12) rfl rfl vg_598 rfl (Nat.le_of_ble_eq_true rfl) hv rfl h11 (fun r12 => ?_)
      refine ir_z_lt (pt := 34) (pc' := 15) rfl rfl rfl (fun c13 => ?_) (fun c13 => ?_)
      · have hW := hW.1 c13
        obtain ⟨h14, hW⟩ := hW
        refine ir_l (pc' := 35) rfl rfl rfl rfl rfl rfl ?_
        refine ir_l (pc' := 36) rfl rfl rfl rfl rfl rfl ?_
        refine ir_vgr (pc' := 39) (c := 598) rfl rfl rfl rfl rfl hv ?_
        refine ir_l (pc' := 40) rfl rfl rfl rfl rfl rfl ?_
        refine ir_via (pc' := 41) rfl rfl vg_598 rfl (Nat.le_of_ble_eq_true rfl) hv rfl h14 (fun r15 => ?_)
        refine ir_cVI (pc' := 44) rfl rfl rfl rfl rfl (Nat.le_of_ble_eq_true rfl) oo_X10_newPolynomial vg_582 (w_newPolynomial L ys (d + 7) s hv (wga s 598 l3) r15 _ hW) (fun z17 s16 hr => ?_)
        obtain ⟨s16v, z17r, hW⟩ := hr
        refine ir_s (pc' := 46) rfl rfl rfl rfl rfl rfl ?_
        refine ir_k (pc' := 47) (v := (0, 0)) rfl rfl rfl (fun _ => rfl) ?_
        refine ir_s (pc' := 49) rfl rfl rfl rfl rfl rfl ?_
        refine ir_w [(0, (2, ((582 : Nat) : Int))), (3, (0, l3)), (5, (0, z17)), (6, (0, 0))] ⟨rfl, rfl, rfl, rfl, trivial⟩ ?_
        obtain ⟨I9, r9, hI9, hB9⟩ := hW
        exact J49 l3 l3r z17 z17r I9 r9 hB9 _ 0 (zR_i (Or.inl rfl)) s16 s16v hI9 (Nat.lt_succ_self _)
      · have hW := hW.2 c13
        refine ir_l (pc' := 16) rfl rfl rfl rfl rfl rfl ?_
        refine ir_l (pc' := 17) rfl rfl rfl rfl rfl rfl ?_
        refine ir_l (pc' := 19) rfl rfl rfl rfl rfl rfl ?_
        refine ir_cVI (pc' := 22) rfl rfl rfl rfl rfl (Nat.le_of_ble_eq_true rfl) oo_X10_restOf vg_582 (w_restOf L ys d s hv l3 l3r l4 l4r _ hW) (fun z19 s18 hr => ?_)
        obtain ⟨s18v, z19r, hW⟩ := hr
        refine ir_s (pc' := 24) rfl rfl rfl rfl rfl rfl ?_
        refine ir_l (pc' := 26) rfl rfl rfl rfl rfl rfl ?_
        refine ir_s (pc' := 27) rfl rfl rfl rfl rfl rfl ?_
        refine ir_l (pc' := 29) rfl rfl rfl rfl rfl rfl ?_
        refine ir_s (pc' := 31) rfl rfl rfl rfl rfl rfl ?_
        refine ir_goto (pc' := 5) rfl rfl ?_
        refine ir_w [(0, (2, ((582 : Nat) : Int))), (3, (0, l4)), (4, (0, z19))] ⟨rfl, rfl, rfl, trivial⟩ ?_
        exact ih5 l4 l4r z19 z19r s18 s18v hW.1 (Nat.lt_of_lt_of_le hW.2 (Nat.le_of_lt_succ hr5))
  unfold W_common2 at hW
  refine ir_l (pc' := 1) rfl rfl rfl rfl rfl rfl ?_
  refine ir_s (pc' := 2) rfl rfl rfl rfl rfl rfl ?_
  refine ir_l (pc' := 3) rfl rfl rfl rfl rfl rfl ?_
  refine ir_s (pc' := 5) rfl rfl rfl rfl rfl rfl ?_
  refine ir_w [(0, (2, ((582 : Nat) : Int))), (3, (0, l1)), (4, (0, l2))] ⟨rfl, rfl, rfl, trivial⟩ ?_
  obtain ⟨I9, r9, hI9, hB9⟩ := hW
  exact J5 I9 r9 hB9 _ l1 l1r l2 l2r s hv hI9 (Nat.lt_succ_self _)
def W_holdingMany_4 (K4 : Int × Int × im_S → Prop) (l1 : Int) (l2 : Int) (s : im_S) (Q : Int → im_S → Prop) : Prop := (W_cells s (fun z2 s1 => ((z2 ≤ l2 → (Q l1 s1)) ∧ (¬ (z2 ≤ l2) → ((0 ≤ l2 ∧ l2 < 200) ∧ (∀ v206 : Int, v206 = (if (wga s1 618 l2) = 0 then 0 else 1) → ((iR (l1 + v206)) ∧ (iR (l2 + 1)) ∧ (K4 ((l1 + v206), (l2 + 1), s1)))))))))
def W_holdingMany (s : im_S) (Q : Int → im_S → Prop) : Prop := (wloop (fun (K : Int × Int × im_S → Prop) (a : Int × Int × im_S) => W_holdingMany_4 K a.1 a.2.1 a.2.2 Q) (0, 0, s))
set_option maxRecDepth 16384 in
theorem w_holdingMany (L : Nat) (ys : Nat → Int32) (d : Nat) (s : im_S) (hv : vI s) (Q : Int → im_S → Prop) (hW : W_holdingMany s Q) : icI gG rm_P L ys 0 (d + 2) 46 [(2, ((582 : Nat) : Int))] s (fun z9 s9 => vI s9 ∧ iR z9 ∧ Q z9 s9) := by
  refine ic_startM (M := rm_p_X10_holdingMany) om_X10_holdingMany (Nat.le_of_ble_eq_true rfl) ?_
  refine ir_w [(0, (2, ((582 : Nat) : Int)))] ⟨rfl, trivial⟩ ?_
  have J4 : ∀ (I4 : Int × Int × im_S → Prop) (r4 : Int × Int × im_S → Nat) (hB4 : ∀ a : Int × Int × im_S, I4 a → W_holdingMany_4 (fun b => I4 b ∧ r4 b < r4 a) a.1 a.2.1 a.2.2 Q), ∀ n4 : Nat, ∀ (l1 : Int) (l1r : iR l1) (l2 : Int) (l2r : iR l2) (s : im_S) (hv : vI s), I4 (l1, l2, s) → r4 (l1, l2, s) < n4 → ir gG rm_P L ys (d + 1) rm_p_X10_holdingMany (4, [(0, (2, ((582 : Nat) : Int))), (1, (0, l1)), (2, (0, l2))], [], s) (fun r : im_Re => ∃ z, r.1 = some (0, z) ∧ (vI r.2 ∧ iR z ∧ Q z r.2)) := by
    intro I4 r4 hB4 n4
    induction n4 with
    | zero => intro l1 l1r l2 l2r s hv hI hr; exact absurd hr (Nat.not_lt_zero _)
    | succ n4 ih4 =>
      intro l1 l1r l2 l2r s hv hI hr4
      obtain ⟨t4, ht4⟩ : ∃ t4 : Int × Int × im_S, t4 = (l1, l2, s) := ⟨_, rfl⟩
      rw [← ht4] at hr4
      have hW : W_holdingMany_4 (fun b => I4 b ∧ r4 b < r4 t4) l1 l2 s Q := by have z := hB4 (l1, l2, s) hI; rw [ht4]; exact z
      unfold W_holdingMany_4 at hW
      refine ir_l (pc' := 5) rfl rfl rfl rfl rfl rfl ?_
      refine ir_l (pc' := 6) rfl rfl rfl rfl rfl rfl ?_
      refine ir_cVI (pc' := 9) rfl rfl rfl rfl rfl (Nat.le_of_ble_eq_true rfl) oo_X10_cells vg_582 (w_cells L ys d s hv  _ hW) (fun z2 s1 hr => ?_)
      obtain ⟨s1v, z2r, hW⟩ := hr
      refine ir_c_ge (pt := 35) (pc' := 12) rfl rfl rfl (fun c3 => ?_) (fun c3 => ?_)
      · have hW := hW.1 c3
        refine ir_l (pc' := 36) rfl rfl rfl rfl rfl rfl ?_
        exact ir_iret rfl rfl ⟨_, rfl, s1v, l1r, hW⟩
      · have hW := hW.2 c3
        obtain ⟨h4, hW⟩ := hW
        refine ir_l (pc' := 13) rfl rfl rfl rfl rfl rfl ?_
        refine ir_l (pc' := 14) rfl rfl rfl rfl rfl rfl ?_
        refine ir_vgr (pc' := 17) (c := 618) rfl rfl rfl rfl rfl s1v ?_
        refine ir_l (pc' := 18) rfl rfl rfl rfl rfl rfl ?_
        refine ir_vba (pc' := 19) rfl rfl vg_618 rfl (Nat.le_of_ble_eq_true rfl) s1v rfl h4 (fun r5 => ?_)
        have J207 : ∀ v206 : Int, zR v206 → (((iR (l1 + v206)) ∧ (iR (l2 + 1)) ∧ ((fun b => I4 b ∧ r4 b < r4 t4) ((l1 + v206), (l2 + 1), s1)))) → ir gG rm_P L ys (d + 1) rm_p_X10_holdingMany (27, [(0, (2, ((582 : Nat) : Int))), (2, (0, l2))], [(0, v206), (0, l1)], s1) (fun r : im_Re => ∃ z, r.1 = some (0, z) ∧ (vI r.2 ∧ iR z ∧ Q z r.2)) := by
          intro v206 v206r hW
          obtain ⟨h208, h209, hW⟩ := hW
          refine ir_add (pc' := 28) rfl rfl h208.1 h208.2 ?_
          refine ir_s (pc' := 29) rfl rfl rfl rfl rfl rfl ?_
          refine ir_inc (pc' := 32) rfl rfl rfl rfl rfl h209.1 h209.2 ?_
          refine ir_goto (pc' := 4) rfl rfl ?_
          refine ir_w [(0, (2, ((582 : Nat) : Int))), (1, (0, (l1 + v206))), (2, (0, (l2 + 1)))] ⟨rfl, rfl, rfl, trivial⟩ ?_
          exact ih4 (l1 + v206) h208 (l2 + 1) h209 s1 s1v hW.1 (Nat.lt_of_lt_of_le hW.2 (Nat.le_of_lt_succ hr4))
        refine ir_z_eq (pt := 26) (pc' := 22) rfl rfl rfl (fun c6 => ?_) (fun c6 => ?_)
        · refine ir_k (pc' := 27) (v := (0, 0)) rfl rfl rfl (fun _ => rfl) ?_
          refine ir_w [(0, (2, ((582 : Nat) : Int))), (2, (0, l2))] ⟨rfl, rfl, trivial⟩ ?_
          exact J207 0 (Or.inl rfl) (hW _ (by rw [if_pos c6]))
        · refine ir_k (pc' := 23) (v := (0, 1)) rfl rfl rfl (fun _ => rfl) ?_
          refine ir_goto (pc' := 27) rfl rfl ?_
          refine ir_w [(0, (2, ((582 : Nat) : Int))), (2, (0, l2))] ⟨rfl, rfl, trivial⟩ ?_
          exact J207 1 (Or.inr rfl) (hW _ (by rw [if_neg (fun z => c6 z)]))
  unfold W_holdingMany at hW
  refine ir_k (pc' := 1) (v := (0, 0)) rfl rfl rfl (fun _ => rfl) ?_
  refine ir_s (pc' := 2) rfl rfl rfl rfl rfl rfl ?_
  refine ir_k (pc' := 3) (v := (0, 0)) rfl rfl rfl (fun _ => rfl) ?_
  refine ir_s (pc' := 4) rfl rfl rfl rfl rfl rfl ?_
  refine ir_w [(0, (2, ((582 : Nat) : Int))), (1, (0, 0)), (2, (0, 0))] ⟨rfl, rfl, rfl, trivial⟩ ?_
  obtain ⟨I9, r9, hI9, hB9⟩ := hW
  exact J4 I9 r9 hB9 _ 0 (zR_i (Or.inl rfl)) 0 (zR_i (Or.inl rfl)) s hv hI9 (Nat.lt_succ_self _)
def W_count_86 (k0 : Int) (s : im_S) (Q : Int → im_S → Prop) : Prop := (Q k0 s)
def W_count_23 (l1 : Int) (s : im_S) (Q : Int → im_S → Prop) : Prop := ((¬ (l1 = 0) → ((¬ (l1 = 1) → ((¬ (l1 = 2) → ((¬ (l1 = 3) → ((¬ (l1 = 4) → (W_holdingMany s (fun z7 s6 => (W_count_86 z7 s6 Q)))) ∧ (l1 = 4 → (W_count_86 (wgf s 41) s Q)))) ∧ (l1 = 3 → (W_count_86 (wgf s 6) s Q)))) ∧ (l1 = 2 → (W_count_86 (wgf s 1) s Q)))) ∧ (l1 = 1 → (W_count_86 (wgf s 3) s Q)))) ∧ (l1 = 0 → (W_count_86 (wgf s 2) s Q)))
def W_count_21 (s : im_S) (Q : Int → im_S → Prop) : Prop := (Q (-1) s)
def W_count (l1 : Int) (s : im_S) (Q : Int → im_S → Prop) : Prop := ((l1 < 0 → (W_count_21 s Q)) ∧ (¬ (l1 < 0) → ((5 < l1 → (W_count_21 s Q)) ∧ (¬ (5 < l1) → ((l1 ≤ 2 → (W_count_23 l1 s Q)) ∧ (¬ (l1 ≤ 2) → ((¬ ((wgf s 5) = 0) → (W_count_23 l1 s Q)) ∧ ((wgf s 5) = 0 → (W_count_21 s Q)))))))))
set_option maxRecDepth 16384 in
theorem w_count (L : Nat) (ys : Nat → Int32) (d : Nat) (s : im_S) (hv : vI s) (l1 : Int) (l1r : iR l1) (Q : Int → im_S → Prop) (hW : W_count l1 s Q) : icI gG rm_P L ys 0 (d + 3) 25 [(2, ((582 : Nat) : Int)), (0, l1)] s (fun z9 s9 => vI s9 ∧ iR z9 ∧ Q z9 s9) := by
  refine ic_startM (M := rm_p_X10_count) om_X10_count (Nat.le_of_ble_eq_true rfl) ?_
  refine ir_w [(0, (2, ((582 : Nat) : Int))), (1, (0, l1))] ⟨rfl, rfl, trivial⟩ ?_
  have J86 : ∀ (k0 : Int) (k0r : iR k0) (s : im_S) (hv : vI s), W_count_86 k0 s Q → ir gG rm_P L ys (d + 2) rm_p_X10_count (86, [], [(0, k0)], s) (fun r : im_Re => ∃ z, r.1 = some (0, z) ∧ (vI r.2 ∧ iR z ∧ Q z r.2)) := by
    intro k0 k0r s hv hW
    unfold W_count_86 at hW
    exact ir_iret rfl rfl ⟨_, rfl, hv, k0r, hW⟩
  have J23 : ∀ (l1 : Int) (l1r : iR l1) (s : im_S) (hv : vI s), W_count_23 l1 s Q → ir gG rm_P L ys (d + 2) rm_p_X10_count (23, [(0, (2, ((582 : Nat) : Int))), (1, (0, l1))], [], s) (fun r : im_Re => ∃ z, r.1 = some (0, z) ∧ (vI r.2 ∧ iR z ∧ Q z r.2)) := by
    intro l1 l1r s hv hW
    unfold W_count_23 at hW
    refine ir_l (pc' := 24) rfl rfl rfl rfl rfl rfl ?_
    refine ir_z_ne (pt := 34) (pc' := 27) rfl rfl rfl (fun c1 => ?_) (fun c1 => ?_)
    · have hW := hW.1 c1
      refine ir_l (pc' := 35) rfl rfl rfl rfl rfl rfl ?_
      refine ir_k (pc' := 36) (v := (0, 1)) rfl rfl rfl (fun _ => rfl) ?_
      refine ir_c_ne (pt := 46) (pc' := 39) rfl rfl rfl (fun c2 => ?_) (fun c2 => ?_)
      · have hW := hW.1 c2
        refine ir_l (pc' := 47) rfl rfl rfl rfl rfl rfl ?_
        refine ir_k (pc' := 48) (v := (0, 2)) rfl rfl rfl (fun _ => rfl) ?_
        refine ir_c_ne (pt := 58) (pc' := 51) rfl rfl rfl (fun c3 => ?_) (fun c3 => ?_)
        · have hW := hW.1 c3
          refine ir_l (pc' := 59) rfl rfl rfl rfl rfl rfl ?_
          refine ir_k (pc' := 60) (v := (0, 3)) rfl rfl rfl (fun _ => rfl) ?_
          refine ir_c_ne (pt := 70) (pc' := 63) rfl rfl rfl (fun c4 => ?_) (fun c4 => ?_)
          · have hW := hW.1 c4
            refine ir_l (pc' := 71) rfl rfl rfl rfl rfl rfl ?_
            refine ir_k (pc' := 72) (v := (0, 4)) rfl rfl rfl (fun _ => rfl) ?_
            refine ir_c_ne (pt := 82) (pc' := 75) rfl rfl rfl (fun c5 => ?_) (fun c5 => ?_)
            · have hW := hW.1 c5
              refine ir_l (pc' := 83) rfl rfl rfl rfl rfl rfl ?_
              refine ir_cVI (pc' := 86) rfl rfl rfl rfl rfl (Nat.le_of_ble_eq_true rfl) oo_X10_holdingMany vg_582 (w_holdingMany L ys d s hv  _ hW) (fun z7 s6 hr => ?_)
              obtain ⟨s6v, z7r, hW⟩ := hr
              refine ir_w [] trivial ?_
              exact J86 z7 z7r s6 s6v hW
            · have hW := hW.2 c5
              refine ir_l (pc' := 76) rfl rfl rfl rfl rfl rfl ?_
              refine ir_vgi (pc' := 79) rfl rfl rfl rfl rfl hv (fun r8 => ?_)
              refine ir_goto (pc' := 86) rfl rfl ?_
              refine ir_w [] trivial ?_
              exact J86 (wgf s 41) r8 s hv hW
          · have hW := hW.2 c4
            refine ir_l (pc' := 64) rfl rfl rfl rfl rfl rfl ?_
            refine ir_vgi (pc' := 67) rfl rfl rfl rfl rfl hv (fun r9 => ?_)
            refine ir_goto (pc' := 86) rfl rfl ?_
            refine ir_w [] trivial ?_
            exact J86 (wgf s 6) r9 s hv hW
        · have hW := hW.2 c3
          refine ir_l (pc' := 52) rfl rfl rfl rfl rfl rfl ?_
          refine ir_vgi (pc' := 55) rfl rfl rfl rfl rfl hv (fun r10 => ?_)
          refine ir_goto (pc' := 86) rfl rfl ?_
          refine ir_w [] trivial ?_
          exact J86 (wgf s 1) r10 s hv hW
      · have hW := hW.2 c2
        refine ir_l (pc' := 40) rfl rfl rfl rfl rfl rfl ?_
        refine ir_vgi (pc' := 43) rfl rfl rfl rfl rfl hv (fun r11 => ?_)
        refine ir_goto (pc' := 86) rfl rfl ?_
        refine ir_w [] trivial ?_
        exact J86 (wgf s 3) r11 s hv hW
    · have hW := hW.2 c1
      refine ir_l (pc' := 28) rfl rfl rfl rfl rfl rfl ?_
      refine ir_vgi (pc' := 31) rfl rfl rfl rfl rfl hv (fun r12 => ?_)
      refine ir_goto (pc' := 86) rfl rfl ?_
      refine ir_w [] trivial ?_
      exact J86 (wgf s 2) r12 s hv hW
  have J21 : ∀ (s : im_S) (hv : vI s), W_count_21 s Q → ir gG rm_P L ys (d + 2) rm_p_X10_count (21, [], [], s) (fun r : im_Re => ∃ z, r.1 = some (0, z) ∧ (vI r.2 ∧ iR z ∧ Q z r.2)) := by
    intro s hv hW
    unfold W_count_21 at hW
    refine ir_k (pc' := 22) (v := (0, (-1))) rfl rfl rfl (fun _ => rfl) ?_
    exact ir_iret rfl rfl ⟨_, rfl, hv, (⟨by decide, by decide⟩ : iR (-1)), hW⟩
  unfold W_count at hW
  refine ir_l (pc' := 1) rfl rfl rfl rfl rfl rfl ?_
  refine ir_z_lt (pt := 21) (pc' := 4) rfl rfl rfl (fun c13 => ?_) (fun c13 => ?_)
  · have hW := hW.1 c13
    refine ir_w [] trivial ?_
    exact J21 s hv hW
  · have hW := hW.2 c13
    refine ir_l (pc' := 5) rfl rfl rfl rfl rfl rfl ?_
    refine ir_k (pc' := 6) (v := (0, 5)) rfl rfl rfl (fun _ => rfl) ?_
    refine ir_c_gt (pt := 21) (pc' := 9) rfl rfl rfl (fun c14 => ?_) (fun c14 => ?_)
    · have hW := hW.1 c14
      refine ir_w [] trivial ?_
      exact J21 s hv hW
    · have hW := hW.2 c14
      refine ir_l (pc' := 10) rfl rfl rfl rfl rfl rfl ?_
      refine ir_k (pc' := 11) (v := (0, 2)) rfl rfl rfl (fun _ => rfl) ?_
      refine ir_c_le (pt := 23) (pc' := 14) rfl rfl rfl (fun c15 => ?_) (fun c15 => ?_)
      · have hW := hW.1 c15
        refine ir_w [(0, (2, ((582 : Nat) : Int))), (1, (0, l1))] ⟨rfl, rfl, trivial⟩ ?_
        exact J23 l1 l1r s hv hW
      · have hW := hW.2 c15
        refine ir_l (pc' := 15) rfl rfl rfl rfl rfl rfl ?_
        refine ir_vgz (pc' := 18) rfl rfl rfl rfl rfl hv (fun r16 => ?_)
        refine ir_z_ne (pt := 23) (pc' := 21) rfl rfl rfl (fun c17 => ?_) (fun c17 => ?_)
        · have hW := hW.1 c17
          refine ir_w [(0, (2, ((582 : Nat) : Int))), (1, (0, l1))] ⟨rfl, rfl, trivial⟩ ?_
          exact J23 l1 l1r s hv hW
        · have hW := hW.2 c17
          refine ir_w [] trivial ?_
          exact J21 s hv hW
