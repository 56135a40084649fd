/-! THE REFERENCE LIFTED, by program -/
def W_digit_160 (K160 : Int × Int × im_S → Prop) (l1 : Int) (l2 : Int) (l3 : Int) (l4 : Int) (l11 : Int) (l15 : Int) (l17 : Int) (s : im_S) (Q : Int → im_S → Prop) : Prop := ((iR (l4 + 1)) ∧ (((l4 + 1) < l17 → ((iR l11) ∧ (Q l11 s))) ∧ (¬ ((l4 + 1) < l17) → ((iR (l1 + l2)) ∧ (iR ((l1 + l2) + l17)) ∧ (0 ≤ (((l1 + l2) + l17) - 1) ∧ (((l1 + l2) + l17) - 1) < 700000) ∧ (lR ((wga s 597 (((l1 + l2) + l17) - 1)) - l15)) ∧ (¬ (l4 < l17) → (0 ≤ (l3 + l17) ∧ (l3 + l17) < 700000)) ∧ (¬ (l4 < l17) → lR (l11 * (wga s 597 (l3 + l17)))) ∧ (∀ v210 : Int, v210 = (if l4 < l17 then 0 else (l11 * (wga s 597 (l3 + l17)))) → ((lR (((wga s 597 (((l1 + l2) + l17) - 1)) - l15) - v210)) ∧ (¬ (0 ≤ ((((wga s 597 (((l1 + l2) + l17) - 1)) - l15) - v210).tmod 1000000000)) → lR (((((wga s 597 (((l1 + l2) + l17) - 1)) - l15) - v210).tmod 1000000000) + 1000000000)) ∧ (∀ v414 : Int, v414 = (if 0 ≤ ((((wga s 597 (((l1 + l2) + l17) - 1)) - l15) - v210).tmod 1000000000) then ((((wga s 597 (((l1 + l2) + l17) - 1)) - l15) - v210).tmod 1000000000) else (((((wga s 597 (((l1 + l2) + l17) - 1)) - l15) - v210).tmod 1000000000) + 1000000000)) → ((lR (v414 - (((wga s 597 (((l1 + l2) + l17) - 1)) - l15) - v210))) ∧ (iR (l1 + l2)) ∧ (iR ((l1 + l2) + l17)) ∧ (iR v414) ∧ (0 ≤ (((l1 + l2) + l17) - 1) ∧ (((l1 + l2) + l17) - 1) < 700000) ∧ (∀ s422, s422 = wpa s 597 (((l1 + l2) + l17) - 1) v414 → ((iR (l17 + 1)) ∧ (K160 (((v414 - (((wga s 597 (((l1 + l2) + l17) - 1)) - l15) - v210)).tdiv 1000000000), (l17 + 1), s422))))))))))))
def W_digit_103 (K103 : Int × Int × im_S → Prop) (l1 : Int) (l2 : Int) (l3 : Int) (l4 : Int) (l11 : Int) (l13 : Int) (s : im_S) (Q : Int → im_S → Prop) : Prop := ((l13 ≤ l11 → (wloop (fun (K : Int × Int × im_S → Prop) (a : Int × Int × im_S) => W_digit_160 K l1 l2 l3 l4 l11 a.1 a.2.1 a.2.2 Q) (0, 1, s))) ∧ (¬ (l13 ≤ l11) → ((lR (l11 + l13)) ∧ (lR ((l11 + l13) + 1)) ∧ (W_fitsSo l1 l2 l3 l4 (((l11 + l13) + 1).tdiv 2) s (fun z429 s428 => ((z429 = 0 → lR ((((l11 + l13) + 1).tdiv 2) - 1)) ∧ (∀ v630 : Int, v630 = (if z429 = 0 then l11 else (((l11 + l13) + 1).tdiv 2)) → ∀ v631 : Int, v631 = (if z429 = 0 then ((((l11 + l13) + 1).tdiv 2) - 1) else l13) → (K103 (v630, v631, s428)))))))))
def W_digit (l1 : Int) (l2 : Int) (l3 : Int) (l4 : Int) (s : im_S) (Q : Int → im_S → Prop) : Prop := ((iR (l1 + l2)) ∧ (0 ≤ ((l1 + l2) + l4) ∧ ((l1 + l2) + l4) < 700000) ∧ (lR ((wga s 597 ((l1 + l2) + l4)) * 1000000000)) ∧ (0 ≤ (((l1 + l2) + l4) - 1) ∧ (((l1 + l2) + l4) - 1) < 700000) ∧ (lR (((wga s 597 ((l1 + l2) + l4)) * 1000000000) + (wga s 597 (((l1 + l2) + l4) - 1)))) ∧ (0 ≤ (l3 + l4) ∧ (l3 + l4) < 700000) ∧ (0 < (wga s 597 (l3 + l4))) ∧ (lR ((wga s 597 (l3 + l4)) + 1)) ∧ (0 < ((wga s 597 (l3 + l4)) + 1)) ∧ (∀ v850 : Int, v850 = (if ((((wga s 597 ((l1 + l2) + l4)) * 1000000000) + (wga s 597 (((l1 + l2) + l4) - 1))).tdiv ((wga s 597 (l3 + l4)) + 1)) ≤ 999999999 then ((((wga s 597 ((l1 + l2) + l4)) * 1000000000) + (wga s 597 (((l1 + l2) + l4) - 1))).tdiv ((wga s 597 (l3 + l4)) + 1)) else 999999999) → (∀ v1053 : Int, v1053 = (if ((((wga s 597 ((l1 + l2) + l4)) * 1000000000) + (wga s 597 (((l1 + l2) + l4) - 1))).tdiv (wga s 597 (l3 + l4))) ≤ 999999999 then ((((wga s 597 ((l1 + l2) + l4)) * 1000000000) + (wga s 597 (((l1 + l2) + l4) - 1))).tdiv (wga s 597 (l3 + l4))) else 999999999) → (wloop (fun (K : Int × Int × im_S → Prop) (a : Int × Int × im_S) => W_digit_103 K l1 l2 l3 l4 a.1 a.2.1 a.2.2 Q) (v850, v1053, s)))))
set_option maxRecDepth 16384 in
theorem w_digit (L : Nat) (ys : Nat → Int32) (d : Nat) (s : im_S) (hv : vI s) (l1 : Int) (l1r : iR l1) (l2 : Int) (l2r : iR l2) (l3 : Int) (l3r : iR l3) (l4 : Int) (l4r : iR l4) (Q : Int → im_S → Prop) (hW : W_digit l1 l2 l3 l4 s Q) : icI gG rm_P L ys 0 (d + 2) 28 [(2, ((582 : Nat) : Int)), (0, l1), (0, l2), (0, l3), (0, l4)] s (fun z9 s9 => vI s9 ∧ iR z9 ∧ Q z9 s9) := by
  refine ic_startM (M := rm_p_X10_digit) om_X10_digit (Nat.le_of_ble_eq_true rfl) ?_
  refine ir_w [(0, (2, ((582 : Nat) : Int))), (1, (0, l1)), (2, (0, l2)), (3, (0, l3)), (4, (0, l4))] ⟨rfl, rfl, rfl, rfl, rfl, trivial⟩ ?_
  have J160 : ∀ (l1 : Int) (l1r : iR l1) (l2 : Int) (l2r : iR l2) (l3 : Int) (l3r : iR l3) (l4 : Int) (l4r : iR l4) (l11 : Int) (l11r : lR l11) (I160 : Int × Int × im_S → Prop) (r160 : Int × Int × im_S → Nat) (hB160 : ∀ a : Int × Int × im_S, I160 a → W_digit_160 (fun b => I160 b ∧ r160 b < r160 a) l1 l2 l3 l4 l11 a.1 a.2.1 a.2.2 Q), ∀ n160 : Nat, ∀ (l15 : Int) (l15r : lR l15) (l17 : Int) (l17r : iR l17) (s : im_S) (hv : vI s), I160 (l15, l17, s) → r160 (l15, l17, s) < n160 → ir gG rm_P L ys (d + 1) rm_p_X10_digit (160, [(0, (2, ((582 : Nat) : Int))), (1, (0, l1)), (2, (0, l2)), (3, (0, l3)), (4, (0, l4)), (11, (1, l11)), (15, (1, l15)), (17, (0, l17))], [], s) (fun r : im_Re => ∃ z, r.1 = some (0, z) ∧ (vI r.2 ∧ iR z ∧ Q z r.2)) := by
    intro l1 l1r l2 l2r l3 l3r l4 l4r l11 l11r I160 r160 hB160 n160
    induction n160 with
    | zero => intro l15 l15r l17 l17r s hv hI hr; exact absurd hr (Nat.not_lt_zero _)
    | succ n160 ih160 =>
      intro l15 l15r l17 l17r s hv hI hr160
      obtain ⟨t160, ht160⟩ : ∃ t160 : Int × Int × im_S, t160 = (l15, l17, s) := ⟨_, rfl⟩
      rw [← ht160] at hr160
      have hW : W_digit_160 (fun b => I160 b ∧ r160 b < r160 t160) l1 l2 l3 l4 l11 l15 l17 s Q := by have z := hB160 (l15, l17, s) hI; rw [ht160]; exact z
      unfold W_digit_160 at hW
      obtain ⟨h1, hW⟩ := hW
      refine ir_l (pc' := 162) rfl rfl rfl rfl rfl rfl ?_
      refine ir_l (pc' := 164) rfl rfl rfl rfl rfl rfl ?_
      refine ir_k (pc' := 165) (v := (0, 1)) rfl rfl rfl (fun _ => rfl) ?_
      refine ir_add (pc' := 166) rfl rfl h1.1 h1.2 ?_
      refine ir_c_gt (pt := 274) (pc' := 169) rfl rfl rfl (fun c2 => ?_) (fun c2 => ?_)
      · have hW := hW.1 c2
        obtain ⟨h3, hW⟩ := hW
        refine ir_l (pc' := 276) rfl rfl rfl rfl rfl rfl ?_
        refine ir_l2i (pc' := 277) rfl rfl h3.1 h3.2 ?_
        exact ir_iret rfl rfl ⟨_, rfl, hv, h3, hW⟩
      · have hW := hW.2 c2
        obtain ⟨h4, h5, h7, h9, h12, h14, hW⟩ := hW
        have h6 : iR (((l1 + l2) + l17) - 1) := ⟨by omega, by omega⟩
        have h11 : ¬ (l4 < l17) → iR (l3 + l17) := fun g0_ => ⟨by have z := h12 g0_; omega, by have z := h12 g0_; omega⟩
        refine ir_l (pc' := 170) rfl rfl rfl rfl rfl rfl ?_
        refine ir_vgr (pc' := 173) (c := 597) rfl rfl rfl rfl rfl hv ?_
        refine ir_l (pc' := 174) rfl rfl rfl rfl rfl rfl ?_
        refine ir_l (pc' := 175) rfl rfl rfl rfl rfl rfl ?_
        refine ir_add (pc' := 176) rfl rfl h4.1 h4.2 ?_
        refine ir_l (pc' := 178) rfl rfl rfl rfl rfl rfl ?_
        refine ir_add (pc' := 179) rfl rfl h5.1 h5.2 ?_
        refine ir_k (pc' := 180) (v := (0, 1)) rfl rfl rfl (fun _ => rfl) ?_
        refine ir_sub (pc' := 181) rfl rfl h6.1 h6.2 ?_
        refine ir_via (pc' := 182) rfl rfl vg_597 rfl (Nat.le_of_ble_eq_true rfl) hv rfl h7 (fun r8 => ?_)
        refine ir_i2l (pc' := 183) rfl rfl r8.1 r8.2 ?_
        refine ir_l (pc' := 185) rfl rfl rfl rfl rfl rfl ?_
        refine ir_lsub (pc' := 186) rfl rfl h9.1 h9.2 ?_
        refine ir_l (pc' := 188) rfl rfl rfl rfl rfl rfl ?_
        refine ir_l (pc' := 190) rfl rfl rfl rfl rfl rfl ?_
        have J211 : ∀ v210 : Int, lR v210 → (((lR (((wga s 597 (((l1 + l2) + l17) - 1)) - l15) - v210)) ∧ (¬ (0 ≤ ((((wga s 597 (((l1 + l2) + l17) - 1)) - l15) - v210).tmod 1000000000)) → lR (((((wga s 597 (((l1 + l2) + l17) - 1)) - l15) - v210).tmod 1000000000) + 1000000000)) ∧ (∀ v414 : Int, v414 = (if 0 ≤ ((((wga s 597 (((l1 + l2) + l17) - 1)) - l15) - v210).tmod 1000000000) then ((((wga s 597 (((l1 + l2) + l17) - 1)) - l15) - v210).tmod 1000000000) else (((((wga s 597 (((l1 + l2) + l17) - 1)) - l15) - v210).tmod 1000000000) + 1000000000)) → ((lR (v414 - (((wga s 597 (((l1 + l2) + l17) - 1)) - l15) - v210))) ∧ (iR (l1 + l2)) ∧ (iR ((l1 + l2) + l17)) ∧ (iR v414) ∧ (0 ≤ (((l1 + l2) + l17) - 1) ∧ (((l1 + l2) + l17) - 1) < 700000) ∧ (∀ s422, s422 = wpa s 597 (((l1 + l2) + l17) - 1) v414 → ((iR (l17 + 1)) ∧ ((fun b => I160 b ∧ r160 b < r160 t160) (((v414 - (((wga s 597 (((l1 + l2) + l17) - 1)) - l15) - v210)).tdiv 1000000000), (l17 + 1), s422)))))))) → ir gG rm_P L ys (d + 1) rm_p_X10_digit (210, [(0, (2, ((582 : Nat) : Int))), (1, (0, l1)), (2, (0, l2)), (3, (0, l3)), (4, (0, l4)), (11, (1, l11)), (17, (0, l17))], [(1, v210), (1, ((wga s 597 (((l1 + l2) + l17) - 1)) - l15))], s) (fun r : im_Re => ∃ z, r.1 = some (0, z) ∧ (vI r.2 ∧ iR z ∧ Q z r.2)) := by
          intro v210 v210r hW
          obtain ⟨h212, h215, hW⟩ := hW
          refine ir_lsub (pc' := 211) rfl rfl h212.1 h212.2 ?_
          refine ir_s2 (pc' := 213) rfl rfl rfl rfl rfl rfl ?_
          refine ir_l (pc' := 215) rfl rfl rfl rfl rfl rfl ?_
          refine ir_k (pc' := 218) (v := (1, 1000000000)) rfl rfl rfl (fun _ => rfl) ?_
          refine ir_lrem (pc' := 219) rfl rfl h212.1 h212.2 (by decide) (⟨by decide, by decide⟩ : lR 1000000000).2 ?_
          refine ir_s2 (pc' := 221) rfl rfl rfl rfl rfl rfl ?_
          refine ir_l (pc' := 223) rfl rfl rfl rfl rfl rfl ?_
          refine ir_k (pc' := 224) (v := (1, 0)) rfl rfl rfl (fun _ => rfl) ?_
          refine ir_lcmp (pc' := 225) rfl rfl (w_tmod1 h212 (by decide) (⟨by decide, by decide⟩ : lR 1000000000)).1 (w_tmod1 h212 (by decide) (⟨by decide, by decide⟩ : lR 1000000000)).2 (⟨by decide, by decide⟩ : lR 0).1 (⟨by decide, by decide⟩ : lR 0).2 (fun z213 z213c => ?_)
          have J415 : ∀ v414 : Int, lR v414 → (((lR (v414 - (((wga s 597 (((l1 + l2) + l17) - 1)) - l15) - v210))) ∧ (iR (l1 + l2)) ∧ (iR ((l1 + l2) + l17)) ∧ (iR v414) ∧ (0 ≤ (((l1 + l2) + l17) - 1) ∧ (((l1 + l2) + l17) - 1) < 700000) ∧ (∀ s422, s422 = wpa s 597 (((l1 + l2) + l17) - 1) v414 → ((iR (l17 + 1)) ∧ ((fun b => I160 b ∧ r160 b < r160 t160) (((v414 - (((wga s 597 (((l1 + l2) + l17) - 1)) - l15) - v210)).tdiv 1000000000), (l17 + 1), s422)))))) → ir gG rm_P L ys (d + 1) rm_p_X10_digit (239, [(0, (2, ((582 : Nat) : Int))), (1, (0, l1)), (2, (0, l2)), (3, (0, l3)), (4, (0, l4)), (11, (1, l11)), (17, (0, l17)), (18, (1, (((wga s 597 (((l1 + l2) + l17) - 1)) - l15) - v210)))], [(1, v414)], s) (fun r : im_Re => ∃ z, r.1 = some (0, z) ∧ (vI r.2 ∧ iR z ∧ Q z r.2)) := by
            intro v414 v414r hW
            obtain ⟨h416, h417, h418, h420, h421, hW⟩ := hW
            have h419 : iR (((l1 + l2) + l17) - 1) := ⟨by omega, by omega⟩
            refine ir_s2 (pc' := 241) rfl rfl rfl rfl rfl rfl ?_
            refine ir_l (pc' := 243) rfl rfl rfl rfl rfl rfl ?_
            refine ir_l (pc' := 245) rfl rfl rfl rfl rfl rfl ?_
            refine ir_lsub (pc' := 246) rfl rfl h416.1 h416.2 ?_
            refine ir_k (pc' := 249) (v := (1, 1000000000)) rfl rfl rfl (fun _ => rfl) ?_
            refine ir_ldiv (pc' := 250) rfl rfl h416.1 h416.2 (by decide) (⟨by decide, by decide⟩ : lR 1000000000).2 ?_
            refine ir_s2 (pc' := 252) rfl rfl rfl rfl rfl rfl ?_
            refine ir_l (pc' := 253) rfl rfl rfl rfl rfl rfl ?_
            refine ir_vgr (pc' := 256) (c := 597) rfl rfl rfl rfl rfl hv ?_
            refine ir_l (pc' := 257) rfl rfl rfl rfl rfl rfl ?_
            refine ir_l (pc' := 258) rfl rfl rfl rfl rfl rfl ?_
            refine ir_add (pc' := 259) rfl rfl h417.1 h417.2 ?_
            refine ir_l (pc' := 261) rfl rfl rfl rfl rfl rfl ?_
            refine ir_add (pc' := 262) rfl rfl h418.1 h418.2 ?_
            refine ir_k (pc' := 263) (v := (0, 1)) rfl rfl rfl (fun _ => rfl) ?_
            refine ir_sub (pc' := 264) rfl rfl h419.1 h419.2 ?_
            refine ir_l (pc' := 266) rfl rfl rfl rfl rfl rfl ?_
            refine ir_l2i (pc' := 267) rfl rfl h420.1 h420.2 ?_
            refine ir_vis (pc' := 268) rfl rfl vg_597 rfl (Nat.le_of_ble_eq_true rfl) hv rfl h421 h420 (fun s422 s422e s422v => ?_)
            have hW := hW s422 s422e
            obtain ⟨h423, hW⟩ := hW
            refine ir_inc (pc' := 271) rfl rfl rfl rfl rfl h423.1 h423.2 ?_
            refine ir_goto (pc' := 160) rfl rfl ?_
            refine ir_w [(0, (2, ((582 : Nat) : Int))), (1, (0, l1)), (2, (0, l2)), (3, (0, l3)), (4, (0, l4)), (11, (1, l11)), (15, (1, ((v414 - (((wga s 597 (((l1 + l2) + l17) - 1)) - l15) - v210)).tdiv 1000000000))), (17, (0, (l17 + 1)))] ⟨rfl, rfl, rfl, rfl, rfl, rfl, rfl, rfl, trivial⟩ ?_
            exact ih160 ((v414 - (((wga s 597 (((l1 + l2) + l17) - 1)) - l15) - v210)).tdiv 1000000000) (w_tdiv1 h416 (by decide) (⟨by decide, by decide⟩ : lR 1000000000)) (l17 + 1) h423 s422 s422v hW.1 (Nat.lt_of_lt_of_le hW.2 (Nat.le_of_lt_succ hr160))
          refine ir_z_ge (pt := 237) (pc' := 228) rfl rfl rfl (fun c214 => ?_) (fun c214 => ?_)
          · have c214 : 0 ≤ ((((wga s 597 (((l1 + l2) + l17) - 1)) - l15) - v210).tmod 1000000000) := by omega
            refine ir_l (pc' := 239) rfl rfl rfl rfl rfl rfl ?_
            refine ir_w [(0, (2, ((582 : Nat) : Int))), (1, (0, l1)), (2, (0, l2)), (3, (0, l3)), (4, (0, l4)), (11, (1, l11)), (17, (0, l17)), (18, (1, (((wga s 597 (((l1 + l2) + l17) - 1)) - l15) - v210)))] ⟨rfl, rfl, rfl, rfl, rfl, rfl, rfl, rfl, trivial⟩ ?_
            exact J415 ((((wga s 597 (((l1 + l2) + l17) - 1)) - l15) - v210).tmod 1000000000) (w_tmod1 h212 (by decide) (⟨by decide, by decide⟩ : lR 1000000000)) (hW _ (by rw [if_pos c214]))
          · have c214 : ¬ (0 ≤ ((((wga s 597 (((l1 + l2) + l17) - 1)) - l15) - v210).tmod 1000000000)) := by omega
            refine ir_l (pc' := 230) rfl rfl rfl rfl rfl rfl ?_
            refine ir_k (pc' := 233) (v := (1, 1000000000)) rfl rfl rfl (fun _ => rfl) ?_
            refine ir_ladd (pc' := 234) rfl rfl (h215 c214).1 (h215 c214).2 ?_
            refine ir_goto (pc' := 239) rfl rfl ?_
            refine ir_w [(0, (2, ((582 : Nat) : Int))), (1, (0, l1)), (2, (0, l2)), (3, (0, l3)), (4, (0, l4)), (11, (1, l11)), (17, (0, l17)), (18, (1, (((wga s 597 (((l1 + l2) + l17) - 1)) - l15) - v210)))] ⟨rfl, rfl, rfl, rfl, rfl, rfl, rfl, rfl, trivial⟩ ?_
            exact J415 (((((wga s 597 (((l1 + l2) + l17) - 1)) - l15) - v210).tmod 1000000000) + 1000000000) (h215 c214) (hW _ (by rw [if_neg (fun z => c214 z)]))
        refine ir_c_gt (pt := 209) (pc' := 193) rfl rfl rfl (fun c10 => ?_) (fun c10 => ?_)
        · refine ir_k (pc' := 210) (v := (1, 0)) rfl rfl rfl (fun _ => rfl) ?_
          refine ir_w [(0, (2, ((582 : Nat) : Int))), (1, (0, l1)), (2, (0, l2)), (3, (0, l3)), (4, (0, l4)), (11, (1, l11)), (17, (0, l17))] ⟨rfl, rfl, rfl, rfl, rfl, rfl, rfl, trivial⟩ ?_
          exact J211 0 (⟨by decide, by decide⟩ : lR 0) (hW _ (by rw [if_pos c10]))
        · refine ir_l (pc' := 195) rfl rfl rfl rfl rfl rfl ?_
          refine ir_l (pc' := 196) rfl rfl rfl rfl rfl rfl ?_
          refine ir_vgr (pc' := 199) (c := 597) rfl rfl rfl rfl rfl hv ?_
          refine ir_l (pc' := 200) rfl rfl rfl rfl rfl rfl ?_
          refine ir_l (pc' := 202) rfl rfl rfl rfl rfl rfl ?_
          refine ir_add (pc' := 203) rfl rfl (h11 c10).1 (h11 c10).2 ?_
          refine ir_via (pc' := 204) rfl rfl vg_597 rfl (Nat.le_of_ble_eq_true rfl) hv rfl (h12 c10) (fun r13 => ?_)
          refine ir_i2l (pc' := 205) rfl rfl r13.1 r13.2 ?_
          refine ir_lmul (pc' := 206) rfl rfl (h14 c10).1 (h14 c10).2 ?_
          refine ir_goto (pc' := 210) rfl rfl ?_
          refine ir_w [(0, (2, ((582 : Nat) : Int))), (1, (0, l1)), (2, (0, l2)), (3, (0, l3)), (4, (0, l4)), (11, (1, l11)), (17, (0, l17))] ⟨rfl, rfl, rfl, rfl, rfl, rfl, rfl, trivial⟩ ?_
          exact J211 (l11 * (wga s 597 (l3 + l17))) (h14 c10) (hW _ (by rw [if_neg (fun z => c10 z)]))
  have J103 : ∀ (l1 : Int) (l1r : iR l1) (l2 : Int) (l2r : iR l2) (l3 : Int) (l3r : iR l3) (l4 : Int) (l4r : iR l4) (I103 : Int × Int × im_S → Prop) (r103 : Int × Int × im_S → Nat) (hB103 : ∀ a : Int × Int × im_S, I103 a → W_digit_103 (fun b => I103 b ∧ r103 b < r103 a) l1 l2 l3 l4 a.1 a.2.1 a.2.2 Q), ∀ n103 : Nat, ∀ (l11 : Int) (l11r : lR l11) (l13 : Int) (l13r : lR l13) (s : im_S) (hv : vI s), I103 (l11, l13, s) → r103 (l11, l13, s) < n103 → ir gG rm_P L ys (d + 1) rm_p_X10_digit (103, [(0, (2, ((582 : Nat) : Int))), (1, (0, l1)), (2, (0, l2)), (3, (0, l3)), (4, (0, l4)), (11, (1, l11)), (13, (1, l13))], [], s) (fun r : im_Re => ∃ z, r.1 = some (0, z) ∧ (vI r.2 ∧ iR z ∧ Q z r.2)) := by
    intro l1 l1r l2 l2r l3 l3r l4 l4r I103 r103 hB103 n103
    induction n103 with
    | zero => intro l11 l11r l13 l13r s hv hI hr; exact absurd hr (Nat.not_lt_zero _)
    | succ n103 ih103 =>
      intro l11 l11r l13 l13r s hv hI hr103
      obtain ⟨t103, ht103⟩ : ∃ t103 : Int × Int × im_S, t103 = (l11, l13, s) := ⟨_, rfl⟩
      rw [← ht103] at hr103
      have hW : W_digit_103 (fun b => I103 b ∧ r103 b < r103 t103) l1 l2 l3 l4 l11 l13 s Q := by have z := hB103 (l11, l13, s) hI; rw [ht103]; exact z
      unfold W_digit_103 at hW
      refine ir_l (pc' := 105) rfl rfl rfl rfl rfl rfl ?_
      refine ir_l (pc' := 107) rfl rfl rfl rfl rfl rfl ?_
      refine ir_lcmp (pc' := 108) rfl rfl l11r.1 l11r.2 l13r.1 l13r.2 (fun z424 z424c => ?_)
      refine ir_z_ge (pt := 154) (pc' := 111) rfl rfl rfl (fun c425 => ?_) (fun c425 => ?_)
      · have c425 : l13 ≤ l11 := by omega
        have hW := hW.1 c425
        refine ir_k (pc' := 155) (v := (1, 0)) rfl rfl rfl (fun _ => rfl) ?_
        refine ir_s2 (pc' := 157) rfl rfl rfl rfl rfl rfl ?_
        refine ir_k (pc' := 158) (v := (0, 1)) rfl rfl rfl (fun _ => rfl) ?_
        refine ir_s (pc' := 160) rfl rfl rfl rfl rfl rfl ?_
        refine ir_w [(0, (2, ((582 : Nat) : Int))), (1, (0, l1)), (2, (0, l2)), (3, (0, l3)), (4, (0, l4)), (11, (1, l11)), (15, (1, 0)), (17, (0, 1))] ⟨rfl, rfl, rfl, rfl, rfl, rfl, rfl, rfl, trivial⟩ ?_
        obtain ⟨I9, r9, hI9, hB9⟩ := hW
        exact J160 l1 l1r l2 l2r l3 l3r l4 l4r l11 l11r I9 r9 hB9 _ 0 (⟨by decide, by decide⟩ : lR 0) 1 (zR_i (Or.inr rfl)) s hv hI9 (Nat.lt_succ_self _)
      · have c425 : ¬ (l13 ≤ l11) := by omega
        have hW := hW.2 c425
        obtain ⟨h426, h427, hW⟩ := hW
        refine ir_l (pc' := 113) rfl rfl rfl rfl rfl rfl ?_
        refine ir_l (pc' := 115) rfl rfl rfl rfl rfl rfl ?_
        refine ir_ladd (pc' := 116) rfl rfl h426.1 h426.2 ?_
        refine ir_k (pc' := 117) (v := (1, 1)) rfl rfl rfl (fun _ => rfl) ?_
        refine ir_ladd (pc' := 118) rfl rfl h427.1 h427.2 ?_
        refine ir_k (pc' := 121) (v := (1, 2)) rfl rfl rfl (fun _ => rfl) ?_
        refine ir_ldiv (pc' := 122) rfl rfl h427.1 h427.2 (by decide) (⟨by decide, by decide⟩ : lR 2).2 ?_
        refine ir_s2 (pc' := 124) rfl rfl rfl rfl rfl rfl ?_
        refine ir_l (pc' := 125) rfl rfl rfl rfl rfl rfl ?_
        refine ir_l (pc' := 126) rfl rfl rfl rfl rfl rfl ?_
        refine ir_l (pc' := 127) rfl rfl rfl rfl rfl rfl ?_
        refine ir_l (pc' := 128) rfl rfl rfl rfl rfl rfl ?_
        refine ir_l (pc' := 130) rfl rfl rfl rfl rfl rfl ?_
        refine ir_l (pc' := 132) rfl rfl rfl rfl rfl rfl ?_
        refine ir_cVI (pc' := 135) rfl rfl rfl rfl rfl (Nat.le_of_ble_eq_true rfl) oo_X10_fitsSo vg_582 (w_fitsSo L ys d s hv l1 l1r l2 l2r l3 l3r l4 l4r (((l11 + l13) + 1).tdiv 2) (w_tdiv1 h427 (by decide) (⟨by decide, by decide⟩ : lR 2)) _ hW) (fun z429 s428 hr => ?_)
        obtain ⟨s428v, z429r, hW⟩ := hr
        obtain ⟨h431, hW⟩ := hW
        have J632 : ∀ v630 : Int, lR v630 → ∀ v631 : Int, lR v631 → (((fun b => I103 b ∧ r103 b < r103 t103) (v630, v631, s428))) → ir gG rm_P L ys (d + 1) rm_p_X10_digit (151, [(0, (2, ((582 : Nat) : Int))), (1, (0, l1)), (2, (0, l2)), (3, (0, l3)), (4, (0, l4)), (11, (1, v630)), (13, (1, v631))], [], s428) (fun r : im_Re => ∃ z, r.1 = some (0, z) ∧ (vI r.2 ∧ iR z ∧ Q z r.2)) := by
          intro v630 v630r v631 v631r hW
          refine ir_goto (pc' := 103) rfl rfl ?_
          refine ir_w [(0, (2, ((582 : Nat) : Int))), (1, (0, l1)), (2, (0, l2)), (3, (0, l3)), (4, (0, l4)), (11, (1, v630)), (13, (1, v631))] ⟨rfl, rfl, rfl, rfl, rfl, rfl, rfl, trivial⟩ ?_
          exact ih103 v630 v630r v631 v631r s428 s428v hW.1 (Nat.lt_of_lt_of_le hW.2 (Nat.le_of_lt_succ hr103))
        refine ir_z_eq (pt := 145) (pc' := 138) rfl rfl rfl (fun c430 => ?_) (fun c430 => ?_)
        · refine ir_l (pc' := 147) rfl rfl rfl rfl rfl rfl ?_
          refine ir_k (pc' := 148) (v := (1, 1)) rfl rfl rfl (fun _ => rfl) ?_
          refine ir_lsub (pc' := 149) rfl rfl (h431 c430).1 (h431 c430).2 ?_
          refine ir_s2 (pc' := 151) rfl rfl rfl rfl rfl rfl ?_
          refine ir_w [(0, (2, ((582 : Nat) : Int))), (1, (0, l1)), (2, (0, l2)), (3, (0, l3)), (4, (0, l4)), (11, (1, l11)), (13, (1, ((((l11 + l13) + 1).tdiv 2) - 1)))] ⟨rfl, rfl, rfl, rfl, rfl, rfl, rfl, trivial⟩ ?_
          exact J632 l11 l11r ((((l11 + l13) + 1).tdiv 2) - 1) (h431 c430) (hW _ (by rw [if_pos c430]) _ (by rw [if_pos c430]))
        · refine ir_l (pc' := 140) rfl rfl rfl rfl rfl rfl ?_
          refine ir_s2 (pc' := 142) rfl rfl rfl rfl rfl rfl ?_
          refine ir_goto (pc' := 151) rfl rfl ?_
          refine ir_w [(0, (2, ((582 : Nat) : Int))), (1, (0, l1)), (2, (0, l2)), (3, (0, l3)), (4, (0, l4)), (11, (1, (((l11 + l13) + 1).tdiv 2))), (13, (1, l13))] ⟨rfl, rfl, rfl, rfl, rfl, rfl, rfl, trivial⟩ ?_
          exact J632 (((l11 + l13) + 1).tdiv 2) (w_tdiv1 h427 (by decide) (⟨by decide, by decide⟩ : lR 2)) l13 l13r (hW _ (by rw [if_neg (fun z => c430 z)]) _ (by rw [if_neg (fun z => c430 z)]))
  unfold W_digit at hW
  obtain ⟨h633, h635, h637, h639, h641, h643, h645, h647, h648, hW⟩ := hW
  have h634 : iR ((l1 + l2) + l4) := ⟨by omega, by omega⟩
  have h638 : iR (((l1 + l2) + l4) - 1) := ⟨by omega, by omega⟩
  have h642 : iR (l3 + l4) := ⟨by omega, by omega⟩
  refine ir_l (pc' := 1) rfl rfl rfl rfl rfl rfl ?_
  refine ir_vgr (pc' := 4) (c := 597) rfl rfl rfl rfl rfl hv ?_
  refine ir_l (pc' := 5) rfl rfl rfl rfl rfl rfl ?_
  refine ir_l (pc' := 6) rfl rfl rfl rfl rfl rfl ?_
  refine ir_add (pc' := 7) rfl rfl h633.1 h633.2 ?_
  refine ir_l (pc' := 9) rfl rfl rfl rfl rfl rfl ?_
  refine ir_add (pc' := 10) rfl rfl h634.1 h634.2 ?_
  refine ir_via (pc' := 11) rfl rfl vg_597 rfl (Nat.le_of_ble_eq_true rfl) hv rfl h635 (fun r636 => ?_)
  refine ir_i2l (pc' := 12) rfl rfl r636.1 r636.2 ?_
  refine ir_k (pc' := 15) (v := (1, 1000000000)) rfl rfl rfl (fun _ => rfl) ?_
  refine ir_lmul (pc' := 16) rfl rfl h637.1 h637.2 ?_
  refine ir_l (pc' := 17) rfl rfl rfl rfl rfl rfl ?_
  refine ir_vgr (pc' := 20) (c := 597) rfl rfl rfl rfl rfl hv ?_
  refine ir_l (pc' := 21) rfl rfl rfl rfl rfl rfl ?_
  refine ir_l (pc' := 22) rfl rfl rfl rfl rfl rfl ?_
  refine ir_add (pc' := 23) rfl rfl h633.1 h633.2 ?_
  refine ir_l (pc' := 25) rfl rfl rfl rfl rfl rfl ?_
  refine ir_add (pc' := 26) rfl rfl h634.1 h634.2 ?_
  refine ir_k (pc' := 27) (v := (0, 1)) rfl rfl rfl (fun _ => rfl) ?_
  refine ir_sub (pc' := 28) rfl rfl h638.1 h638.2 ?_
  refine ir_via (pc' := 29) rfl rfl vg_597 rfl (Nat.le_of_ble_eq_true rfl) hv rfl h639 (fun r640 => ?_)
  refine ir_i2l (pc' := 30) rfl rfl r640.1 r640.2 ?_
  refine ir_ladd (pc' := 31) rfl rfl h641.1 h641.2 ?_
  refine ir_s2 (pc' := 33) rfl rfl rfl rfl rfl rfl ?_
  refine ir_l (pc' := 35) rfl rfl rfl rfl rfl rfl ?_
  refine ir_l (pc' := 36) rfl rfl rfl rfl rfl rfl ?_
  refine ir_vgr (pc' := 39) (c := 597) rfl rfl rfl rfl rfl hv ?_
  refine ir_l (pc' := 40) rfl rfl rfl rfl rfl rfl ?_
  refine ir_l (pc' := 42) rfl rfl rfl rfl rfl rfl ?_
  refine ir_add (pc' := 43) rfl rfl h642.1 h642.2 ?_
  refine ir_via (pc' := 44) rfl rfl vg_597 rfl (Nat.le_of_ble_eq_true rfl) hv rfl h643 (fun r644 => ?_)
  refine ir_i2l (pc' := 45) rfl rfl r644.1 r644.2 ?_
  refine ir_ldiv (pc' := 46) rfl rfl h641.1 h641.2 h645 (iR_l r644).2 ?_
  refine ir_s2 (pc' := 48) rfl rfl rfl rfl rfl rfl ?_
  refine ir_l (pc' := 50) rfl rfl rfl rfl rfl rfl ?_
  refine ir_l (pc' := 51) rfl rfl rfl rfl rfl rfl ?_
  refine ir_vgr (pc' := 54) (c := 597) rfl rfl rfl rfl rfl hv ?_
  refine ir_l (pc' := 55) rfl rfl rfl rfl rfl rfl ?_
  refine ir_l (pc' := 57) rfl rfl rfl rfl rfl rfl ?_
  refine ir_add (pc' := 58) rfl rfl h642.1 h642.2 ?_
  refine ir_via (pc' := 59) rfl rfl vg_597 rfl (Nat.le_of_ble_eq_true rfl) hv rfl h643 (fun r646 => ?_)
  refine ir_i2l (pc' := 60) rfl rfl r646.1 r646.2 ?_
  refine ir_k (pc' := 61) (v := (1, 1)) rfl rfl rfl (fun _ => rfl) ?_
  refine ir_ladd (pc' := 62) rfl rfl h647.1 h647.2 ?_
  refine ir_ldiv (pc' := 63) rfl rfl h641.1 h641.2 h648 h647.2 ?_
  refine ir_s2 (pc' := 65) rfl rfl rfl rfl rfl rfl ?_
  refine ir_l (pc' := 67) rfl rfl rfl rfl rfl rfl ?_
  refine ir_k (pc' := 70) (v := (1, 999999999)) rfl rfl rfl (fun _ => rfl) ?_
  refine ir_lcmp (pc' := 71) rfl rfl (w_tdiv1 h641 h648 h647).1 (w_tdiv1 h641 h648 h647).2 (⟨by decide, by decide⟩ : lR 999999999).1 (⟨by decide, by decide⟩ : lR 999999999).2 (fun z649 z649c => ?_)
  have J851 : ∀ v850 : Int, lR v850 → ((∀ v1053 : Int, v1053 = (if ((((wga s 597 ((l1 + l2) + l4)) * 1000000000) + (wga s 597 (((l1 + l2) + l4) - 1))).tdiv (wga s 597 (l3 + l4))) ≤ 999999999 then ((((wga s 597 ((l1 + l2) + l4)) * 1000000000) + (wga s 597 (((l1 + l2) + l4) - 1))).tdiv (wga s 597 (l3 + l4))) else 999999999) → (wloop (fun (K : Int × Int × im_S → Prop) (a : Int × Int × im_S) => W_digit_103 K l1 l2 l3 l4 a.1 a.2.1 a.2.2 Q) (v850, v1053, s)))) → ir gG rm_P L ys (d + 1) rm_p_X10_digit (82, [(0, (2, ((582 : Nat) : Int))), (1, (0, l1)), (2, (0, l2)), (3, (0, l3)), (4, (0, l4)), (7, (1, ((((wga s 597 ((l1 + l2) + l4)) * 1000000000) + (wga s 597 (((l1 + l2) + l4) - 1))).tdiv (wga s 597 (l3 + l4)))))], [(1, v850)], s) (fun r : im_Re => ∃ z, r.1 = some (0, z) ∧ (vI r.2 ∧ iR z ∧ Q z r.2)) := by
    intro v850 v850r hW
    refine ir_s2 (pc' := 84) rfl rfl rfl rfl rfl rfl ?_
    refine ir_l (pc' := 86) rfl rfl rfl rfl rfl rfl ?_
    refine ir_k (pc' := 89) (v := (1, 999999999)) rfl rfl rfl (fun _ => rfl) ?_
    refine ir_lcmp (pc' := 90) rfl rfl (w_tdiv1 h641 h645 (iR_l r644)).1 (w_tdiv1 h641 h645 (iR_l r644)).2 (⟨by decide, by decide⟩ : lR 999999999).1 (⟨by decide, by decide⟩ : lR 999999999).2 (fun z852 z852c => ?_)
    have J1054 : ∀ v1053 : Int, lR v1053 → ((wloop (fun (K : Int × Int × im_S → Prop) (a : Int × Int × im_S) => W_digit_103 K l1 l2 l3 l4 a.1 a.2.1 a.2.2 Q) (v850, v1053, s))) → ir gG rm_P L ys (d + 1) rm_p_X10_digit (101, [(0, (2, ((582 : Nat) : Int))), (1, (0, l1)), (2, (0, l2)), (3, (0, l3)), (4, (0, l4)), (11, (1, v850))], [(1, v1053)], s) (fun r : im_Re => ∃ z, r.1 = some (0, z) ∧ (vI r.2 ∧ iR z ∧ Q z r.2)) := by
      intro v1053 v1053r hW
      refine ir_s2 (pc' := 103) rfl rfl rfl rfl rfl rfl ?_
      refine ir_w [(0, (2, ((582 : Nat) : Int))), (1, (0, l1)), (2, (0, l2)), (3, (0, l3)), (4, (0, l4)), (11, (1, v850)), (13, (1, v1053))] ⟨rfl, rfl, rfl, rfl, rfl, rfl, rfl, trivial⟩ ?_
      obtain ⟨I9, r9, hI9, hB9⟩ := hW
      exact J103 l1 l1r l2 l2r l3 l3r l4 l4r I9 r9 hB9 _ v850 v850r v1053 v1053r s hv hI9 (Nat.lt_succ_self _)
    refine ir_z_le (pt := 99) (pc' := 93) rfl rfl rfl (fun c853 => ?_) (fun c853 => ?_)
    · have c853 : ((((wga s 597 ((l1 + l2) + l4)) * 1000000000) + (wga s 597 (((l1 + l2) + l4) - 1))).tdiv (wga s 597 (l3 + l4))) ≤ 999999999 := by omega
      refine ir_l (pc' := 101) rfl rfl rfl rfl rfl rfl ?_
      refine ir_w [(0, (2, ((582 : Nat) : Int))), (1, (0, l1)), (2, (0, l2)), (3, (0, l3)), (4, (0, l4)), (11, (1, v850))] ⟨rfl, rfl, rfl, rfl, rfl, rfl, trivial⟩ ?_
      exact J1054 ((((wga s 597 ((l1 + l2) + l4)) * 1000000000) + (wga s 597 (((l1 + l2) + l4) - 1))).tdiv (wga s 597 (l3 + l4))) (w_tdiv1 h641 h645 (iR_l r644)) (hW _ (by rw [if_pos c853]))
    · have c853 : ¬ (((((wga s 597 ((l1 + l2) + l4)) * 1000000000) + (wga s 597 (((l1 + l2) + l4) - 1))).tdiv (wga s 597 (l3 + l4))) ≤ 999999999) := by omega
      refine ir_k (pc' := 96) (v := (1, 999999999)) rfl rfl rfl (fun _ => rfl) ?_
      refine ir_goto (pc' := 101) rfl rfl ?_
      refine ir_w [(0, (2, ((582 : Nat) : Int))), (1, (0, l1)), (2, (0, l2)), (3, (0, l3)), (4, (0, l4)), (11, (1, v850))] ⟨rfl, rfl, rfl, rfl, rfl, rfl, trivial⟩ ?_
      exact J1054 999999999 (⟨by decide, by decide⟩ : lR 999999999) (hW _ (by rw [if_neg (fun z => c853 z)]))
  refine ir_z_le (pt := 80) (pc' := 74) rfl rfl rfl (fun c650 => ?_) (fun c650 => ?_)
  · have c650 : ((((wga s 597 ((l1 + l2) + l4)) * 1000000000) + (wga s 597 (((l1 + l2) + l4) - 1))).tdiv ((wga s 597 (l3 + l4)) + 1)) ≤ 999999999 := by omega
    refine ir_l (pc' := 82) rfl rfl rfl rfl rfl rfl ?_
    refine ir_w [(0, (2, ((582 : Nat) : Int))), (1, (0, l1)), (2, (0, l2)), (3, (0, l3)), (4, (0, l4)), (7, (1, ((((wga s 597 ((l1 + l2) + l4)) * 1000000000) + (wga s 597 (((l1 + l2) + l4) - 1))).tdiv (wga s 597 (l3 + l4)))))] ⟨rfl, rfl, rfl, rfl, rfl, rfl, trivial⟩ ?_
    exact J851 ((((wga s 597 ((l1 + l2) + l4)) * 1000000000) + (wga s 597 (((l1 + l2) + l4) - 1))).tdiv ((wga s 597 (l3 + l4)) + 1)) (w_tdiv1 h641 h648 h647) (hW _ (by rw [if_pos c650]))
  · have c650 : ¬ (((((wga s 597 ((l1 + l2) + l4)) * 1000000000) + (wga s 597 (((l1 + l2) + l4) - 1))).tdiv ((wga s 597 (l3 + l4)) + 1)) ≤ 999999999) := by omega
    refine ir_k (pc' := 77) (v := (1, 999999999)) rfl rfl rfl (fun _ => rfl) ?_
    refine ir_goto (pc' := 82) rfl rfl ?_
    refine ir_w [(0, (2, ((582 : Nat) : Int))), (1, (0, l1)), (2, (0, l2)), (3, (0, l3)), (4, (0, l4)), (7, (1, ((((wga s 597 ((l1 + l2) + l4)) * 1000000000) + (wga s 597 (((l1 + l2) + l4) - 1))).tdiv (wga s 597 (l3 + l4)))))] ⟨rfl, rfl, rfl, rfl, rfl, rfl, trivial⟩ ?_
    exact J851 999999999 (⟨by decide, by decide⟩ : lR 999999999) (hW _ (by rw [if_neg (fun z => c650 z)]))
def W_divide_252 (l6 : Int) (l8 : Int) (l10 : Int) (s : im_S) (Q : Int → im_S → Prop) : Prop := ((0 ≤ l8 ∧ l8 < 700000) ∧ (∀ s2, s2 = wpa s 597 l8 l10 → (∀ s3, s3 = wpf s2 25 l6 → (Q l8 s3))))
def W_divide_228 (K228 : Int × im_S → Prop) (l6 : Int) (l8 : Int) (l10 : Int) (s : im_S) (Q : Int → im_S → Prop) : Prop := ((l10 ≤ 0 → (W_divide_252 l6 l8 l10 s Q)) ∧ (¬ (l10 ≤ 0) → ((0 ≤ (l8 + l10) ∧ (l8 + l10) < 700000) ∧ ((¬ ((wga s 597 (l8 + l10)) = 0) → (W_divide_252 l6 l8 l10 s Q)) ∧ ((wga s 597 (l8 + l10)) = 0 → ((iR (l10 + (-1))) ∧ (K228 ((l10 + (-1)), s))))))))
def W_divide_215 (l4 : Int) (l6 : Int) (l8 : Int) (l9 : Int) (s : im_S) (Q : Int → im_S → Prop) : Prop := ((0 ≤ l6 ∧ l6 < 700000) ∧ (∀ s11, s11 = wpa s 597 l6 l9 → (wloop (fun (K : Int × im_S → Prop) (a : Int × im_S) => W_divide_228 K l6 l8 a.1 a.2 Q) (l4, s11))))
def W_divide_191 (K191 : Int × im_S → Prop) (l4 : Int) (l6 : Int) (l8 : Int) (l9 : Int) (s : im_S) (Q : Int → im_S → Prop) : Prop := ((l9 ≤ 0 → (W_divide_215 l4 l6 l8 l9 s Q)) ∧ (¬ (l9 ≤ 0) → ((0 ≤ (l6 + l9) ∧ (l6 + l9) < 700000) ∧ ((¬ ((wga s 597 (l6 + l9)) = 0) → (W_divide_215 l4 l6 l8 l9 s Q)) ∧ ((wga s 597 (l6 + l9)) = 0 → ((iR (l9 + (-1))) ∧ (K191 ((l9 + (-1)), s))))))))
def W_divide_155 (K155 : Int × im_S → Prop) (l2 : Int) (l4 : Int) (l5 : Int) (l6 : Int) (l7 : Int) (l8 : Int) (l9 : Int) (s : im_S) (Q : Int → im_S → Prop) : Prop := ((l9 ≤ 0 → (wloop (fun (K : Int × im_S → Prop) (a : Int × im_S) => W_divide_191 K l4 l6 l8 a.1 a.2 Q) (l7, s))) ∧ (¬ (l9 ≤ 0) → ((iR (l6 + l9)) ∧ (W_digit l8 l9 l2 l5 s (fun z21 s20 => ((0 ≤ (l6 + l9) ∧ (l6 + l9) < 700000) ∧ (∀ s23, s23 = wpa s20 597 (l6 + l9) z21 → ((iR (l9 + (-1))) ∧ (K155 ((l9 + (-1)), s23))))))))))
def W_divide_95 (K95 : Int × im_S → Prop) (l1 : Int) (l2 : Int) (l4 : Int) (l5 : Int) (l6 : Int) (l7 : Int) (l8 : Int) (l9 : Int) (s : im_S) (Q : Int → im_S → Prop) : Prop := ((l4 < l9 → ((iR (l8 + l4)) ∧ (0 ≤ ((l8 + l4) + 1) ∧ ((l8 + l4) + 1) < 700000) ∧ (∀ s29, s29 = wpa s 597 ((l8 + l4) + 1) 0 → ((iR (l8 + l4)) ∧ (iR ((l8 + l4) + 2)) ∧ (∀ s32, s32 = wpf s29 24 ((l8 + l4) + 2) → (wloop (fun (K : Int × im_S → Prop) (a : Int × im_S) => W_divide_155 K l2 l4 l5 l6 l7 l8 a.1 a.2 Q) (l7, s32))))))) ∧ (¬ (l4 < l9) → ((0 ≤ (l1 + l9) ∧ (l1 + l9) < 700000) ∧ (0 ≤ (l8 + l9) ∧ (l8 + l9) < 700000) ∧ (∀ s38, s38 = wpa s 597 (l8 + l9) (wga s 597 (l1 + l9)) → ((iR (l9 + 1)) ∧ (K95 ((l9 + 1), s38)))))))
def W_divide_51 (K51 : Int × im_S → Prop) (l1 : Int) (l2 : Int) (l4 : Int) (l5 : Int) (l6 : Int) (l7 : Int) (l8 : Int) (s : im_S) (Q : Int → im_S → Prop) : Prop := ((l7 < l8 → ((iR (l6 + l7)) ∧ (iR ((l6 + l7) + 1)) ∧ (∀ s43, s43 = wpf s 24 ((l6 + l7) + 1) → (wloop (fun (K : Int × im_S → Prop) (a : Int × im_S) => W_divide_95 K l1 l2 l4 l5 l6 l7 (wgf s43 24) a.1 a.2 Q) (1, s43))))) ∧ (¬ (l7 < l8) → ((0 ≤ (l6 + l8) ∧ (l6 + l8) < 700000) ∧ (∀ s47, s47 = wpa s 597 (l6 + l8) 0 → ((iR (l8 + 1)) ∧ (K51 ((l8 + 1), s47)))))))
def W_divide (l1 : Int) (l2 : Int) (s : im_S) (Q : Int → im_S → Prop) : Prop := (W_limbs l1 s (fun z51 s50 => (W_limbs l2 s50 (fun z53 s52 => ((iR (z51 - z53)) ∧ (iR ((z51 - z53) + 1)) ∧ (∀ v257 : Int, v257 = (if ((z51 - z53) + 1) ≤ 0 then 0 else ((z51 - z53) + 1)) → (wloop (fun (K : Int × im_S → Prop) (a : Int × im_S) => W_divide_51 K l1 l2 z51 z53 (wgf s52 24) v257 a.1 a.2 Q) (0, s52))))))))
set_option maxRecDepth 16384 in
theorem w_divide (L : Nat) (ys : Nat → Int32) (d : Nat) (s : im_S) (hv : vI s) (l1 : Int) (l1r : iR l1) (l2 : Int) (l2r : iR l2) (Q : Int → im_S → Prop) (hW : W_divide l1 l2 s Q) : icI gG rm_P L ys 0 (d + 3) 29 [(2, ((582 : Nat) : Int)), (0, l1), (0, l2)] s (fun z9 s9 => vI s9 ∧ iR z9 ∧ Q z9 s9) := by
  refine ic_startM (M := rm_p_X10_divide) om_X10_divide (Nat.le_of_ble_eq_true rfl) ?_
  refine ir_w [(0, (2, ((582 : Nat) : Int))), (1, (0, l1)), (2, (0, l2))] ⟨rfl, rfl, rfl, trivial⟩ ?_
  have J252 : ∀ (l6 : Int) (l6r : iR l6) (l8 : Int) (l8r : iR l8) (l10 : Int) (l10r : iR l10) (s : im_S) (hv : vI s), W_divide_252 l6 l8 l10 s Q → ir gG rm_P L ys (d + 2) rm_p_X10_divide (252, [(0, (2, ((582 : Nat) : Int))), (6, (0, l6)), (8, (0, l8)), (10, (0, l10))], [], s) (fun r : im_Re => ∃ z, r.1 = some (0, z) ∧ (vI r.2 ∧ iR z ∧ Q z r.2)) := by
    intro l6 l6r l8 l8r l10 l10r s hv hW
    unfold W_divide_252 at hW
    obtain ⟨h1, hW⟩ := hW
    refine ir_l (pc' := 253) rfl rfl rfl rfl rfl rfl ?_
    refine ir_vgr (pc' := 256) (c := 597) rfl rfl rfl rfl rfl hv ?_
    refine ir_l (pc' := 258) rfl rfl rfl rfl rfl rfl ?_
    refine ir_l (pc' := 260) rfl rfl rfl rfl rfl rfl ?_
    refine ir_vis (pc' := 261) rfl rfl vg_597 rfl (Nat.le_of_ble_eq_true rfl) hv rfl h1 l10r (fun s2 s2e s2v => ?_)
    have hW := hW s2 s2e
    refine ir_l (pc' := 262) rfl rfl rfl rfl rfl rfl ?_
    refine ir_l (pc' := 264) rfl rfl rfl rfl rfl rfl ?_
    refine ir_vpi (pc' := 267) rfl rfl rfl rfl rfl rfl rfl s2v l6r (fun s3 s3e s3v => ?_)
    have hW := hW s3 s3e
    refine ir_l (pc' := 269) rfl rfl rfl rfl rfl rfl ?_
    exact ir_iret rfl rfl ⟨_, rfl, s3v, l8r, hW⟩
  have J228 : ∀ (l6 : Int) (l6r : iR l6) (l8 : Int) (l8r : iR l8) (I228 : Int × im_S → Prop) (r228 : Int × im_S → Nat) (hB228 : ∀ a : Int × im_S, I228 a → W_divide_228 (fun b => I228 b ∧ r228 b < r228 a) l6 l8 a.1 a.2 Q), ∀ n228 : Nat, ∀ (l10 : Int) (l10r : iR l10) (s : im_S) (hv : vI s), I228 (l10, s) → r228 (l10, s) < n228 → ir gG rm_P L ys (d + 2) rm_p_X10_divide (228, [(0, (2, ((582 : Nat) : Int))), (6, (0, l6)), (8, (0, l8)), (10, (0, l10))], [], s) (fun r : im_Re => ∃ z, r.1 = some (0, z) ∧ (vI r.2 ∧ iR z ∧ Q z r.2)) := by
    intro l6 l6r l8 l8r I228 r228 hB228 n228
    induction n228 with
    | zero => intro l10 l10r s hv hI hr; exact absurd hr (Nat.not_lt_zero _)
    | succ n228 ih228 =>
      intro l10 l10r s hv hI hr228
      obtain ⟨t228, ht228⟩ : ∃ t228 : Int × im_S, t228 = (l10, s) := ⟨_, rfl⟩
      rw [← ht228] at hr228
      have hW : W_divide_228 (fun b => I228 b ∧ r228 b < r228 t228) l6 l8 l10 s Q := by have z := hB228 (l10, s) hI; rw [ht228]; exact z
      unfold W_divide_228 at hW
      refine ir_l (pc' := 230) rfl rfl rfl rfl rfl rfl ?_
      refine ir_z_le (pt := 252) (pc' := 233) rfl rfl rfl (fun c4 => ?_) (fun c4 => ?_)
      · have hW := hW.1 c4
        refine ir_w [(0, (2, ((582 : Nat) : Int))), (6, (0, l6)), (8, (0, l8)), (10, (0, l10))] ⟨rfl, rfl, rfl, rfl, trivial⟩ ?_
        exact J252 l6 l6r l8 l8r l10 l10r s hv hW
      · have hW := hW.2 c4
        obtain ⟨h6, hW⟩ := hW
        have h5 : iR (l8 + l10) := ⟨by omega, by omega⟩
        refine ir_l (pc' := 234) rfl rfl rfl rfl rfl rfl ?_
        refine ir_vgr (pc' := 237) (c := 597) rfl rfl rfl rfl rfl hv ?_
        refine ir_l (pc' := 239) rfl rfl rfl rfl rfl rfl ?_
        refine ir_l (pc' := 241) rfl rfl rfl rfl rfl rfl ?_
        refine ir_add (pc' := 242) rfl rfl h5.1 h5.2 ?_
        refine ir_via (pc' := 243) rfl rfl vg_597 rfl (Nat.le_of_ble_eq_true rfl) hv rfl h6 (fun r7 => ?_)
        refine ir_z_ne (pt := 252) (pc' := 246) rfl rfl rfl (fun c8 => ?_) (fun c8 => ?_)
        · have hW := hW.1 c8
          refine ir_w [(0, (2, ((582 : Nat) : Int))), (6, (0, l6)), (8, (0, l8)), (10, (0, l10))] ⟨rfl, rfl, rfl, rfl, trivial⟩ ?_
          exact J252 l6 l6r l8 l8r l10 l10r s hv hW
        · have hW := hW.2 c8
          obtain ⟨h9, hW⟩ := hW
          refine ir_inc (pc' := 249) rfl rfl rfl rfl rfl h9.1 h9.2 ?_
          refine ir_goto (pc' := 228) rfl rfl ?_
          refine ir_w [(0, (2, ((582 : Nat) : Int))), (6, (0, l6)), (8, (0, l8)), (10, (0, (l10 + (-1))))] ⟨rfl, rfl, rfl, rfl, trivial⟩ ?_
          exact ih228 (l10 + (-1)) h9 s hv hW.1 (Nat.lt_of_lt_of_le hW.2 (Nat.le_of_lt_succ hr228))
  have J215 : ∀ (l4 : Int) (l4r : iR l4) (l6 : Int) (l6r : iR l6) (l8 : Int) (l8r : iR l8) (l9 : Int) (l9r : iR l9) (s : im_S) (hv : vI s), W_divide_215 l4 l6 l8 l9 s Q → ir gG rm_P L ys (d + 2) rm_p_X10_divide (215, [(0, (2, ((582 : Nat) : Int))), (4, (0, l4)), (6, (0, l6)), (8, (0, l8)), (9, (0, l9))], [], s) (fun r : im_Re => ∃ z, r.1 = some (0, z) ∧ (vI r.2 ∧ iR z ∧ Q z r.2)) := by
    intro l4 l4r l6 l6r l8 l8r l9 l9r s hv hW
    unfold W_divide_215 at hW
    obtain ⟨h10, hW⟩ := hW
    refine ir_l (pc' := 216) rfl rfl rfl rfl rfl rfl ?_
    refine ir_vgr (pc' := 219) (c := 597) rfl rfl rfl rfl rfl hv ?_
    refine ir_l (pc' := 221) rfl rfl rfl rfl rfl rfl ?_
    refine ir_l (pc' := 223) rfl rfl rfl rfl rfl rfl ?_
    refine ir_vis (pc' := 224) rfl rfl vg_597 rfl (Nat.le_of_ble_eq_true rfl) hv rfl h10 l9r (fun s11 s11e s11v => ?_)
    have hW := hW s11 s11e
    refine ir_l (pc' := 226) rfl rfl rfl rfl rfl rfl ?_
    refine ir_s (pc' := 228) rfl rfl rfl rfl rfl rfl ?_
    refine ir_w [(0, (2, ((582 : Nat) : Int))), (6, (0, l6)), (8, (0, l8)), (10, (0, l4))] ⟨rfl, rfl, rfl, rfl, trivial⟩ ?_
    obtain ⟨I9, r9, hI9, hB9⟩ := hW
    exact J228 l6 l6r l8 l8r I9 r9 hB9 _ l4 l4r s11 s11v hI9 (Nat.lt_succ_self _)
  have J191 : ∀ (l4 : Int) (l4r : iR l4) (l6 : Int) (l6r : iR l6) (l8 : Int) (l8r : iR l8) (I191 : Int × im_S → Prop) (r191 : Int × im_S → Nat) (hB191 : ∀ a : Int × im_S, I191 a → W_divide_191 (fun b => I191 b ∧ r191 b < r191 a) l4 l6 l8 a.1 a.2 Q), ∀ n191 : Nat, ∀ (l9 : Int) (l9r : iR l9) (s : im_S) (hv : vI s), I191 (l9, s) → r191 (l9, s) < n191 → ir gG rm_P L ys (d + 2) rm_p_X10_divide (191, [(0, (2, ((582 : Nat) : Int))), (4, (0, l4)), (6, (0, l6)), (8, (0, l8)), (9, (0, l9))], [], s) (fun r : im_Re => ∃ z, r.1 = some (0, z) ∧ (vI r.2 ∧ iR z ∧ Q z r.2)) := by
    intro l4 l4r l6 l6r l8 l8r I191 r191 hB191 n191
    induction n191 with
    | zero => intro l9 l9r s hv hI hr; exact absurd hr (Nat.not_lt_zero _)
    | succ n191 ih191 =>
      intro l9 l9r s hv hI hr191
      obtain ⟨t191, ht191⟩ : ∃ t191 : Int × im_S, t191 = (l9, s) := ⟨_, rfl⟩
      rw [← ht191] at hr191
      have hW : W_divide_191 (fun b => I191 b ∧ r191 b < r191 t191) l4 l6 l8 l9 s Q := by have z := hB191 (l9, s) hI; rw [ht191]; exact z
      unfold W_divide_191 at hW
      refine ir_l (pc' := 193) rfl rfl rfl rfl rfl rfl ?_
      refine ir_z_le (pt := 215) (pc' := 196) rfl rfl rfl (fun c12 => ?_) (fun c12 => ?_)
      · have hW := hW.1 c12
        refine ir_w [(0, (2, ((582 : Nat) : Int))), (4, (0, l4)), (6, (0, l6)), (8, (0, l8)), (9, (0, l9))] ⟨rfl, rfl, rfl, rfl, rfl, trivial⟩ ?_
        exact J215 l4 l4r l6 l6r l8 l8r l9 l9r s hv hW
      · have hW := hW.2 c12
        obtain ⟨h14, hW⟩ := hW
        have h13 : iR (l6 + l9) := ⟨by omega, by omega⟩
        refine ir_l (pc' := 197) rfl rfl rfl rfl rfl rfl ?_
        refine ir_vgr (pc' := 200) (c := 597) rfl rfl rfl rfl rfl hv ?_
        refine ir_l (pc' := 202) rfl rfl rfl rfl rfl rfl ?_
        refine ir_l (pc' := 204) rfl rfl rfl rfl rfl rfl ?_
        refine ir_add (pc' := 205) rfl rfl h13.1 h13.2 ?_
        refine ir_via (pc' := 206) rfl rfl vg_597 rfl (Nat.le_of_ble_eq_true rfl) hv rfl h14 (fun r15 => ?_)
        refine ir_z_ne (pt := 215) (pc' := 209) rfl rfl rfl (fun c16 => ?_) (fun c16 => ?_)
        · have hW := hW.1 c16
          refine ir_w [(0, (2, ((582 : Nat) : Int))), (4, (0, l4)), (6, (0, l6)), (8, (0, l8)), (9, (0, l9))] ⟨rfl, rfl, rfl, rfl, rfl, trivial⟩ ?_
          exact J215 l4 l4r l6 l6r l8 l8r l9 l9r s hv hW
        · have hW := hW.2 c16
          obtain ⟨h17, hW⟩ := hW
          refine ir_inc (pc' := 212) rfl rfl rfl rfl rfl h17.1 h17.2 ?_
          refine ir_goto (pc' := 191) rfl rfl ?_
          refine ir_w [(0, (2, ((582 : Nat) : Int))), (4, (0, l4)), (6, (0, l6)), (8, (0, l8)), (9, (0, (l9 + (-1))))] ⟨rfl, rfl, rfl, rfl, rfl, trivial⟩ ?_
          exact ih191 (l9 + (-1)) h17 s hv hW.1 (Nat.lt_of_lt_of_le hW.2 (Nat.le_of_lt_succ hr191))
  have J155 : ∀ (l2 : Int) (l2r : iR l2) (l4 : Int) (l4r : iR l4) (l5 : Int) (l5r : iR l5) (l6 : Int) (l6r : iR l6) (l7 : Int) (l7r : iR l7) (l8 : Int) (l8r : iR l8) (I155 : Int × im_S → Prop) (r155 : Int × im_S → Nat) (hB155 : ∀ a : Int × im_S, I155 a → W_divide_155 (fun b => I155 b ∧ r155 b < r155 a) l2 l4 l5 l6 l7 l8 a.1 a.2 Q), ∀ n155 : Nat, ∀ (l9 : Int) (l9r : iR l9) (s : im_S) (hv : vI s), I155 (l9, s) → r155 (l9, s) < n155 → ir gG rm_P L ys (d + 2) rm_p_X10_divide (155, [(0, (2, ((582 : Nat) : Int))), (2, (0, l2)), (4, (0, l4)), (5, (0, l5)), (6, (0, l6)), (7, (0, l7)), (8, (0, l8)), (9, (0, l9))], [], s) (fun r : im_Re => ∃ z, r.1 = some (0, z) ∧ (vI r.2 ∧ iR z ∧ Q z r.2)) := by
    intro l2 l2r l4 l4r l5 l5r l6 l6r l7 l7r l8 l8r I155 r155 hB155 n155
    induction n155 with
    | zero => intro l9 l9r s hv hI hr; exact absurd hr (Nat.not_lt_zero _)
    | succ n155 ih155 =>
      intro l9 l9r s hv hI hr155
      obtain ⟨t155, ht155⟩ : ∃ t155 : Int × im_S, t155 = (l9, s) := ⟨_, rfl⟩
      rw [← ht155] at hr155
      have hW : W_divide_155 (fun b => I155 b ∧ r155 b < r155 t155) l2 l4 l5 l6 l7 l8 l9 s Q := by have z := hB155 (l9, s) hI; rw [ht155]; exact z
      unfold W_divide_155 at hW
      refine ir_l (pc' := 157) rfl rfl rfl rfl rfl rfl ?_
      refine ir_z_le (pt := 187) (pc' := 160) rfl rfl rfl (fun c18 => ?_) (fun c18 => ?_)
      · have hW := hW.1 c18
        refine ir_l (pc' := 189) rfl rfl rfl rfl rfl rfl ?_
        refine ir_s (pc' := 191) rfl rfl rfl rfl rfl rfl ?_
        refine ir_w [(0, (2, ((582 : Nat) : Int))), (4, (0, l4)), (6, (0, l6)), (8, (0, l8)), (9, (0, l7))] ⟨rfl, rfl, rfl, rfl, rfl, trivial⟩ ?_
        obtain ⟨I9, r9, hI9, hB9⟩ := hW
        exact J191 l4 l4r l6 l6r l8 l8r I9 r9 hB9 _ l7 l7r s hv hI9 (Nat.lt_succ_self _)
      · have hW := hW.2 c18
        obtain ⟨h19, hW⟩ := hW
        refine ir_l (pc' := 161) rfl rfl rfl rfl rfl rfl ?_
        refine ir_vgr (pc' := 164) (c := 597) rfl rfl rfl rfl rfl hv ?_
        refine ir_l (pc' := 166) rfl rfl rfl rfl rfl rfl ?_
        refine ir_l (pc' := 168) rfl rfl rfl rfl rfl rfl ?_
        refine ir_add (pc' := 169) rfl rfl h19.1 h19.2 ?_
        refine ir_l (pc' := 170) rfl rfl rfl rfl rfl rfl ?_
        refine ir_l (pc' := 172) rfl rfl rfl rfl rfl rfl ?_
        refine ir_l (pc' := 174) rfl rfl rfl rfl rfl rfl ?_
        refine ir_l (pc' := 175) rfl rfl rfl rfl rfl rfl ?_
        refine ir_l (pc' := 177) rfl rfl rfl rfl rfl rfl ?_
        refine ir_cVI (pc' := 180) rfl rfl rfl rfl rfl (Nat.le_of_ble_eq_true rfl) oo_X10_digit vg_582 (w_digit L ys d s hv l8 l8r l9 l9r l2 l2r l5 l5r _ hW) (fun z21 s20 hr => ?_)
        obtain ⟨s20v, z21r, hW⟩ := hr
        obtain ⟨h22, hW⟩ := hW
        refine ir_vis (pc' := 181) rfl rfl vg_597 rfl (Nat.le_of_ble_eq_true rfl) s20v rfl h22 z21r (fun s23 s23e s23v => ?_)
        have hW := hW s23 s23e
        obtain ⟨h24, hW⟩ := hW
        refine ir_inc (pc' := 184) rfl rfl rfl rfl rfl h24.1 h24.2 ?_
        refine ir_goto (pc' := 155) rfl rfl ?_
        refine ir_w [(0, (2, ((582 : Nat) : Int))), (2, (0, l2)), (4, (0, l4)), (5, (0, l5)), (6, (0, l6)), (7, (0, l7)), (8, (0, l8)), (9, (0, (l9 + (-1))))] ⟨rfl, rfl, rfl, rfl, rfl, rfl, rfl, rfl, trivial⟩ ?_
        exact ih155 (l9 + (-1)) h24 s23 s23v hW.1 (Nat.lt_of_lt_of_le hW.2 (Nat.le_of_lt_succ hr155))
  have J95 : ∀ (l1 : Int) (l1r : iR l1) (l2 : Int) (l2r : iR l2) (l4 : Int) (l4r : iR l4) (l5 : Int) (l5r : iR l5) (l6 : Int) (l6r : iR l6) (l7 : Int) (l7r : iR l7) (l8 : Int) (l8r : iR l8) (I95 : Int × im_S → Prop) (r95 : Int × im_S → Nat) (hB95 : ∀ a : Int × im_S, I95 a → W_divide_95 (fun b => I95 b ∧ r95 b < r95 a) l1 l2 l4 l5 l6 l7 l8 a.1 a.2 Q), ∀ n95 : Nat, ∀ (l9 : Int) (l9r : iR l9) (s : im_S) (hv : vI s), I95 (l9, s) → r95 (l9, s) < n95 → ir gG rm_P L ys (d + 2) rm_p_X10_divide (95, [(0, (2, ((582 : Nat) : Int))), (1, (0, l1)), (2, (0, l2)), (4, (0, l4)), (5, (0, l5)), (6, (0, l6)), (7, (0, l7)), (8, (0, l8)), (9, (0, l9))], [], s) (fun r : im_Re => ∃ z, r.1 = some (0, z) ∧ (vI r.2 ∧ iR z ∧ Q z r.2)) := by
    intro l1 l1r l2 l2r l4 l4r l5 l5r l6 l6r l7 l7r l8 l8r I95 r95 hB95 n95
    induction n95 with
    | zero => intro l9 l9r s hv hI hr; exact absurd hr (Nat.not_lt_zero _)
    | succ n95 ih95 =>
      intro l9 l9r s hv hI hr95
      obtain ⟨t95, ht95⟩ : ∃ t95 : Int × im_S, t95 = (l9, s) := ⟨_, rfl⟩
      rw [← ht95] at hr95
      have hW : W_divide_95 (fun b => I95 b ∧ r95 b < r95 t95) l1 l2 l4 l5 l6 l7 l8 l9 s Q := by have z := hB95 (l9, s) hI; rw [ht95]; exact z
      unfold W_divide_95 at hW
      refine ir_l (pc' := 97) rfl rfl rfl rfl rfl rfl ?_
      refine ir_l (pc' := 99) rfl rfl rfl rfl rfl rfl ?_
      refine ir_c_gt (pt := 127) (pc' := 102) rfl rfl rfl (fun c25 => ?_) (fun c25 => ?_)
      · have hW := hW.1 c25
        obtain ⟨h26, h28, hW⟩ := hW
        have h27 : iR ((l8 + l4) + 1) := ⟨by omega, by omega⟩
        refine ir_l (pc' := 128) rfl rfl rfl rfl rfl rfl ?_
        refine ir_vgr (pc' := 131) (c := 597) rfl rfl rfl rfl rfl hv ?_
        refine ir_l (pc' := 133) rfl rfl rfl rfl rfl rfl ?_
        refine ir_l (pc' := 135) rfl rfl rfl rfl rfl rfl ?_
        refine ir_add (pc' := 136) rfl rfl h26.1 h26.2 ?_
        refine ir_k (pc' := 137) (v := (0, 1)) rfl rfl rfl (fun _ => rfl) ?_
        refine ir_add (pc' := 138) rfl rfl h27.1 h27.2 ?_
        refine ir_k (pc' := 139) (v := (0, 0)) rfl rfl rfl (fun _ => rfl) ?_
        refine ir_vis (pc' := 140) rfl rfl vg_597 rfl (Nat.le_of_ble_eq_true rfl) hv rfl h28 (zR_i (Or.inl rfl)) (fun s29 s29e s29v => ?_)
        have hW := hW s29 s29e
        obtain ⟨h30, h31, hW⟩ := hW
        refine ir_l (pc' := 141) rfl rfl rfl rfl rfl rfl ?_
        refine ir_l (pc' := 143) rfl rfl rfl rfl rfl rfl ?_
        refine ir_l (pc' := 145) rfl rfl rfl rfl rfl rfl ?_
        refine ir_add (pc' := 146) rfl rfl h30.1 h30.2 ?_
        refine ir_k (pc' := 147) (v := (0, 2)) rfl rfl rfl (fun _ => rfl) ?_
        refine ir_add (pc' := 148) rfl rfl h31.1 h31.2 ?_
        refine ir_vpi (pc' := 151) rfl rfl rfl rfl rfl rfl rfl s29v h31 (fun s32 s32e s32v => ?_)
        have hW := hW s32 s32e
        refine ir_l (pc' := 153) rfl rfl rfl rfl rfl rfl ?_
        refine ir_s (pc' := 155) rfl rfl rfl rfl rfl rfl ?_
        refine ir_w [(0, (2, ((582 : Nat) : Int))), (2, (0, l2)), (4, (0, l4)), (5, (0, l5)), (6, (0, l6)), (7, (0, l7)), (8, (0, l8)), (9, (0, l7))] ⟨rfl, rfl, rfl, rfl, rfl, rfl, rfl, rfl, trivial⟩ ?_
        obtain ⟨I9, r9, hI9, hB9⟩ := hW
        exact J155 l2 l2r l4 l4r l5 l5r l6 l6r l7 l7r l8 l8r I9 r9 hB9 _ l7 l7r s32 s32v hI9 (Nat.lt_succ_self _)
      · have hW := hW.2 c25
        obtain ⟨h35, h37, hW⟩ := hW
        have h33 : iR (l8 + l9) := ⟨by omega, by omega⟩
        have h34 : iR (l1 + l9) := ⟨by omega, by omega⟩
        refine ir_l (pc' := 103) rfl rfl rfl rfl rfl rfl ?_
        refine ir_vgr (pc' := 106) (c := 597) rfl rfl rfl rfl rfl hv ?_
        refine ir_l (pc' := 108) rfl rfl rfl rfl rfl rfl ?_
        refine ir_l (pc' := 110) rfl rfl rfl rfl rfl rfl ?_
        refine ir_add (pc' := 111) rfl rfl h33.1 h33.2 ?_
        refine ir_l (pc' := 112) rfl rfl rfl rfl rfl rfl ?_
        refine ir_vgr (pc' := 115) (c := 597) rfl rfl rfl rfl rfl hv ?_
        refine ir_l (pc' := 116) rfl rfl rfl rfl rfl rfl ?_
        refine ir_l (pc' := 118) rfl rfl rfl rfl rfl rfl ?_
        refine ir_add (pc' := 119) rfl rfl h34.1 h34.2 ?_
        refine ir_via (pc' := 120) rfl rfl vg_597 rfl (Nat.le_of_ble_eq_true rfl) hv rfl h35 (fun r36 => ?_)
        refine ir_vis (pc' := 121) rfl rfl vg_597 rfl (Nat.le_of_ble_eq_true rfl) hv rfl h37 r36 (fun s38 s38e s38v => ?_)
        have hW := hW s38 s38e
        obtain ⟨h39, hW⟩ := hW
        refine ir_inc (pc' := 124) rfl rfl rfl rfl rfl h39.1 h39.2 ?_
        refine ir_goto (pc' := 95) rfl rfl ?_
        refine ir_w [(0, (2, ((582 : Nat) : Int))), (1, (0, l1)), (2, (0, l2)), (4, (0, l4)), (5, (0, l5)), (6, (0, l6)), (7, (0, l7)), (8, (0, l8)), (9, (0, (l9 + 1)))] ⟨rfl, rfl, rfl, rfl, rfl, rfl, rfl, rfl, rfl, trivial⟩ ?_
        exact ih95 (l9 + 1) h39 s38 s38v hW.1 (Nat.lt_of_lt_of_le hW.2 (Nat.le_of_lt_succ hr95))
  have J51 : ∀ (l1 : Int) (l1r : iR l1) (l2 : Int) (l2r : iR l2) (l4 : Int) (l4r : iR l4) (l5 : Int) (l5r : iR l5) (l6 : Int) (l6r : iR l6) (l7 : Int) (l7r : iR l7) (I51 : Int × im_S → Prop) (r51 : Int × im_S → Nat) (hB51 : ∀ a : Int × im_S, I51 a → W_divide_51 (fun b => I51 b ∧ r51 b < r51 a) l1 l2 l4 l5 l6 l7 a.1 a.2 Q), ∀ n51 : Nat, ∀ (l8 : Int) (l8r : iR l8) (s : im_S) (hv : vI s), I51 (l8, s) → r51 (l8, s) < n51 → ir gG rm_P L ys (d + 2) rm_p_X10_divide (51, [(0, (2, ((582 : Nat) : Int))), (1, (0, l1)), (2, (0, l2)), (4, (0, l4)), (5, (0, l5)), (6, (0, l6)), (7, (0, l7)), (8, (0, l8))], [], s) (fun r : im_Re => ∃ z, r.1 = some (0, z) ∧ (vI r.2 ∧ iR z ∧ Q z r.2)) := by
    intro l1 l1r l2 l2r l4 l4r l5 l5r l6 l6r l7 l7r I51 r51 hB51 n51
    induction n51 with
    | zero => intro l8 l8r s hv hI hr; exact absurd hr (Nat.not_lt_zero _)
    | succ n51 ih51 =>
      intro l8 l8r s hv hI hr51
      obtain ⟨t51, ht51⟩ : ∃ t51 : Int × im_S, t51 = (l8, s) := ⟨_, rfl⟩
      rw [← ht51] at hr51
      have hW : W_divide_51 (fun b => I51 b ∧ r51 b < r51 t51) l1 l2 l4 l5 l6 l7 l8 s Q := by have z := hB51 (l8, s) hI; rw [ht51]; exact z
      unfold W_divide_51 at hW
      refine ir_l (pc' := 53) rfl rfl rfl rfl rfl rfl ?_
      refine ir_l (pc' := 55) rfl rfl rfl rfl rfl rfl ?_
      refine ir_c_gt (pt := 75) (pc' := 58) rfl rfl rfl (fun c40 => ?_) (fun c40 => ?_)
      · have hW := hW.1 c40
        obtain ⟨h41, h42, hW⟩ := hW
        refine ir_l (pc' := 76) rfl rfl rfl rfl rfl rfl ?_
        refine ir_l (pc' := 78) rfl rfl rfl rfl rfl rfl ?_
        refine ir_l (pc' := 80) rfl rfl rfl rfl rfl rfl ?_
        refine ir_add (pc' := 81) rfl rfl h41.1 h41.2 ?_
        refine ir_k (pc' := 82) (v := (0, 1)) rfl rfl rfl (fun _ => rfl) ?_
        refine ir_add (pc' := 83) rfl rfl h42.1 h42.2 ?_
        refine ir_vpi (pc' := 86) rfl rfl rfl rfl rfl rfl rfl hv h42 (fun s43 s43e s43v => ?_)
        have hW := hW s43 s43e
        refine ir_l (pc' := 87) rfl rfl rfl rfl rfl rfl ?_
        refine ir_vgi (pc' := 90) rfl rfl rfl rfl rfl s43v (fun r44 => ?_)
        refine ir_s (pc' := 92) rfl rfl rfl rfl rfl rfl ?_
        refine ir_k (pc' := 93) (v := (0, 1)) rfl rfl rfl (fun _ => rfl) ?_
        refine ir_s (pc' := 95) rfl rfl rfl rfl rfl rfl ?_
        refine ir_w [(0, (2, ((582 : Nat) : Int))), (1, (0, l1)), (2, (0, l2)), (4, (0, l4)), (5, (0, l5)), (6, (0, l6)), (7, (0, l7)), (8, (0, (wgf s43 24))), (9, (0, 1))] ⟨rfl, rfl, rfl, rfl, rfl, rfl, rfl, rfl, rfl, trivial⟩ ?_
        obtain ⟨I9, r9, hI9, hB9⟩ := hW
        exact J95 l1 l1r l2 l2r l4 l4r l5 l5r l6 l6r l7 l7r (wgf s43 24) r44 I9 r9 hB9 _ 1 (zR_i (Or.inr rfl)) s43 s43v hI9 (Nat.lt_succ_self _)
      · have hW := hW.2 c40
        obtain ⟨h46, hW⟩ := hW
        have h45 : iR (l6 + l8) := ⟨by omega, by omega⟩
        refine ir_l (pc' := 59) rfl rfl rfl rfl rfl rfl ?_
        refine ir_vgr (pc' := 62) (c := 597) rfl rfl rfl rfl rfl hv ?_
        refine ir_l (pc' := 64) rfl rfl rfl rfl rfl rfl ?_
        refine ir_l (pc' := 66) rfl rfl rfl rfl rfl rfl ?_
        refine ir_add (pc' := 67) rfl rfl h45.1 h45.2 ?_
        refine ir_k (pc' := 68) (v := (0, 0)) rfl rfl rfl (fun _ => rfl) ?_
        refine ir_vis (pc' := 69) rfl rfl vg_597 rfl (Nat.le_of_ble_eq_true rfl) hv rfl h46 (zR_i (Or.inl rfl)) (fun s47 s47e s47v => ?_)
        have hW := hW s47 s47e
        obtain ⟨h48, hW⟩ := hW
        refine ir_inc (pc' := 72) rfl rfl rfl rfl rfl h48.1 h48.2 ?_
        refine ir_goto (pc' := 51) rfl rfl ?_
        refine ir_w [(0, (2, ((582 : Nat) : Int))), (1, (0, l1)), (2, (0, l2)), (4, (0, l4)), (5, (0, l5)), (6, (0, l6)), (7, (0, l7)), (8, (0, (l8 + 1)))] ⟨rfl, rfl, rfl, rfl, rfl, rfl, rfl, rfl, trivial⟩ ?_
        exact ih51 (l8 + 1) h48 s47 s47v hW.1 (Nat.lt_of_lt_of_le hW.2 (Nat.le_of_lt_succ hr51))
  unfold W_divide at hW
  refine ir_l (pc' := 1) rfl rfl rfl rfl rfl rfl ?_
  refine ir_vgi (pc' := 4) rfl rfl rfl rfl rfl hv (fun r49 => ?_)
  refine ir_s (pc' := 5) rfl rfl rfl rfl rfl rfl ?_
  refine ir_l (pc' := 6) rfl rfl rfl rfl rfl rfl ?_
  refine ir_l (pc' := 7) rfl rfl rfl rfl rfl rfl ?_
  refine ir_cVI (pc' := 10) rfl rfl rfl rfl rfl (Nat.le_of_ble_eq_true rfl) oo_X10_limbs vg_582 (w_limbs L ys (d + 1) s hv l1 l1r _ hW) (fun z51 s50 hr => ?_)
  obtain ⟨s50v, z51r, hW⟩ := hr
  refine ir_s (pc' := 12) rfl rfl rfl rfl rfl rfl ?_
  refine ir_l (pc' := 13) rfl rfl rfl rfl rfl rfl ?_
  refine ir_l (pc' := 14) rfl rfl rfl rfl rfl rfl ?_
  refine ir_cVI (pc' := 17) rfl rfl rfl rfl rfl (Nat.le_of_ble_eq_true rfl) oo_X10_limbs vg_582 (w_limbs L ys (d + 1) s50 s50v l2 l2r _ hW) (fun z53 s52 hr => ?_)
  obtain ⟨s52v, z53r, hW⟩ := hr
  obtain ⟨h55, h56, hW⟩ := hW
  refine ir_s (pc' := 19) rfl rfl rfl rfl rfl rfl ?_
  refine ir_l (pc' := 20) rfl rfl rfl rfl rfl rfl ?_
  refine ir_vgi (pc' := 23) rfl rfl rfl rfl rfl s52v (fun r54 => ?_)
  refine ir_s (pc' := 25) rfl rfl rfl rfl rfl rfl ?_
  refine ir_l (pc' := 27) rfl rfl rfl rfl rfl rfl ?_
  refine ir_l (pc' := 29) rfl rfl rfl rfl rfl rfl ?_
  refine ir_sub (pc' := 30) rfl rfl h55.1 h55.2 ?_
  refine ir_k (pc' := 31) (v := (0, 1)) rfl rfl rfl (fun _ => rfl) ?_
  refine ir_add (pc' := 32) rfl rfl h56.1 h56.2 ?_
  have J258 : ∀ v257 : Int, iR v257 → ((wloop (fun (K : Int × im_S → Prop) (a : Int × im_S) => W_divide_51 K l1 l2 z51 z53 (wgf s52 24) v257 a.1 a.2 Q) (0, s52))) → ir gG rm_P L ys (d + 2) rm_p_X10_divide (46, [(0, (2, ((582 : Nat) : Int))), (1, (0, l1)), (2, (0, l2)), (4, (0, z51)), (5, (0, z53)), (6, (0, (wgf s52 24)))], [(0, v257)], s52) (fun r : im_Re => ∃ z, r.1 = some (0, z) ∧ (vI r.2 ∧ iR z ∧ Q z r.2)) := by
    intro v257 v257r hW
    refine ir_s (pc' := 48) rfl rfl rfl rfl rfl rfl ?_
    refine ir_k (pc' := 49) (v := (0, 0)) rfl rfl rfl (fun _ => rfl) ?_
    refine ir_s (pc' := 51) rfl rfl rfl rfl rfl rfl ?_
    refine ir_w [(0, (2, ((582 : Nat) : Int))), (1, (0, l1)), (2, (0, l2)), (4, (0, z51)), (5, (0, z53)), (6, (0, (wgf s52 24))), (7, (0, v257)), (8, (0, 0))] ⟨rfl, rfl, rfl, rfl, rfl, rfl, rfl, rfl, trivial⟩ ?_
    obtain ⟨I9, r9, hI9, hB9⟩ := hW
    exact J51 l1 l1r l2 l2r z51 z51r z53 z53r (wgf s52 24) r54 v257 v257r I9 r9 hB9 _ 0 (zR_i (Or.inl rfl)) s52 s52v hI9 (Nat.lt_succ_self _)
  refine ir_z_le (pt := 45) (pc' := 35) rfl rfl rfl (fun c57 => ?_) (fun c57 => ?_)
  · refine ir_k (pc' := 46) (v := (0, 0)) rfl rfl rfl (fun _ => rfl) ?_
    refine ir_w [(0, (2, ((582 : Nat) : Int))), (1, (0, l1)), (2, (0, l2)), (4, (0, z51)), (5, (0, z53)), (6, (0, (wgf s52 24)))] ⟨rfl, rfl, rfl, rfl, rfl, rfl, trivial⟩ ?_
    exact J258 0 (zR_i (Or.inl rfl)) (hW _ (by rw [if_pos c57]))
  · refine ir_l (pc' := 37) rfl rfl rfl rfl rfl rfl ?_
    refine ir_l (pc' := 39) rfl rfl rfl rfl rfl rfl ?_
    refine ir_sub (pc' := 40) rfl rfl h55.1 h55.2 ?_
    refine ir_k (pc' := 41) (v := (0, 1)) rfl rfl rfl (fun _ => rfl) ?_
    refine ir_add (pc' := 42) rfl rfl h56.1 h56.2 ?_
    refine ir_goto (pc' := 46) rfl rfl ?_
    refine ir_w [(0, (2, ((582 : Nat) : Int))), (1, (0, l1)), (2, (0, l2)), (4, (0, z51)), (5, (0, z53)), (6, (0, (wgf s52 24)))] ⟨rfl, rfl, rfl, rfl, rfl, rfl, trivial⟩ ?_
    exact J258 ((z51 - z53) + 1) h56 (hW _ (by rw [if_neg (fun z => c57 z)]))
def W_less (l1 : Int) (s : im_S) (Q : Int → im_S → Prop) : Prop := (W_again l1 s (fun z2 s1 => ((0 ≤ z2 ∧ z2 < 700000) ∧ (iR (-(wga s1 597 z2))) ∧ (0 ≤ z2 ∧ z2 < 700000) ∧ (∀ s7, s7 = wpa s1 597 z2 (-(wga s1 597 z2)) → (Q z2 s7)))))
set_option maxRecDepth 16384 in
theorem w_less (L : Nat) (ys : Nat → Int32) (d : Nat) (s : im_S) (hv : vI s) (l1 : Int) (l1r : iR l1) (Q : Int → im_S → Prop) (hW : W_less l1 s Q) : icI gG rm_P L ys 0 (d + 4) 63 [(2, ((582 : Nat) : Int)), (0, l1)] s (fun z9 s9 => vI s9 ∧ iR z9 ∧ Q z9 s9) := by
  refine ic_startM (M := rm_p_X10_less) om_X10_less (Nat.le_of_ble_eq_true rfl) ?_
  refine ir_w [(0, (2, ((582 : Nat) : Int))), (1, (0, l1))] ⟨rfl, rfl, trivial⟩ ?_
  unfold W_less at hW
  refine ir_l (pc' := 1) rfl rfl rfl rfl rfl rfl ?_
  refine ir_l (pc' := 2) rfl rfl rfl rfl rfl rfl ?_
  refine ir_cVI (pc' := 5) rfl rfl rfl rfl rfl (Nat.le_of_ble_eq_true rfl) oo_X10_again vg_582 (w_again L ys d s hv l1 l1r _ hW) (fun z2 s1 hr => ?_)
  obtain ⟨s1v, z2r, hW⟩ := hr
  obtain ⟨h3, h5, h6, hW⟩ := hW
  refine ir_s (pc' := 6) rfl rfl rfl rfl rfl rfl ?_
  refine ir_l (pc' := 7) rfl rfl rfl rfl rfl rfl ?_
  refine ir_vgr (pc' := 10) (c := 597) rfl rfl rfl rfl rfl s1v ?_
  refine ir_l (pc' := 11) rfl rfl rfl rfl rfl rfl ?_
  refine ir_l (pc' := 12) rfl rfl rfl rfl rfl rfl ?_
  refine ir_vgr (pc' := 15) (c := 597) rfl rfl rfl rfl rfl s1v ?_
  refine ir_l (pc' := 16) rfl rfl rfl rfl rfl rfl ?_
  refine ir_via (pc' := 17) rfl rfl vg_597 rfl (Nat.le_of_ble_eq_true rfl) s1v rfl h3 (fun r4 => ?_)
  refine ir_ineg (pc' := 18) rfl rfl (w_ng0 h5) r4.2 ?_
  refine ir_vis (pc' := 19) rfl rfl vg_597 rfl (Nat.le_of_ble_eq_true rfl) s1v rfl h6 h5 (fun s7 s7e s7v => ?_)
  have hW := hW s7 s7e
  refine ir_l (pc' := 20) rfl rfl rfl rfl rfl rfl ?_
  exact ir_iret rfl rfl ⟨_, rfl, s7v, z2r, hW⟩
