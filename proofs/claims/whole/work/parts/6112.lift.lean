/-! THE REFERENCE LIFTED, by program -/
def W_findAll_154 (K104 : Int × im_S → Prop) (l1 : Int) (l2 : Int) (s : im_S) (Q : im_S → Prop) : Prop := ((0 ≤ l2 ∧ l2 < 90) ∧ (∀ s2, s2 = wpa s 614 l2 l1 → ((iR (l1 + 1)) ∧ (K104 ((l1 + 1), s2)))))
def W_findAll_114 (K104 : Int × im_S → Prop) (K114 : Int × im_S → Prop) (l1 : Int) (l2 : Int) (s : im_S) (Q : im_S → Prop) : Prop := ((l2 ≤ 0 → (W_findAll_154 K104 l1 l2 s Q)) ∧ (¬ (l2 ≤ 0) → ((0 ≤ (l2 - 1) ∧ (l2 - 1) < 90) ∧ (W_isBefore l1 (wga s 614 (l2 - 1)) s (fun z9 s8 => ((z9 = 0 → (W_findAll_154 K104 l1 l2 s8 Q)) ∧ (¬ (z9 = 0) → ((0 ≤ (l2 - 1) ∧ (l2 - 1) < 90) ∧ (0 ≤ l2 ∧ l2 < 90) ∧ (∀ s15, s15 = wpa s8 614 l2 (wga s8 614 (l2 - 1)) → ((iR (l2 + (-1))) ∧ (K114 ((l2 + (-1)), s15))))))))))))
def W_findAll_104 (K104 : Int × im_S → Prop) (l1 : Int) (s : im_S) (Q : im_S → Prop) : Prop := (((wgf s 41) ≤ l1 → (W_signAll s (fun s19 => (Q s19)))) ∧ (¬ ((wgf s 41) ≤ l1) → (wloop (fun (K : Int × im_S → Prop) (a : Int × im_S) => W_findAll_114 K104 K l1 a.1 a.2 Q) (l1, s))))
def W_findAll_83 (K83 : Int × im_S → Prop) (l1 : Int) (s : im_S) (Q : im_S → Prop) : Prop := (((wgf s 34) ≤ l1 → (wloop (fun (K : Int × im_S → Prop) (a : Int × im_S) => W_findAll_104 K a.1 a.2 Q) (0, s))) ∧ (¬ ((wgf s 34) ≤ l1) → (W_findRoots l1 s (fun s23 => ((iR (l1 + 1)) ∧ (K83 ((l1 + 1), s23)))))))
def W_findAll_53 (K53 : Int × im_S → Prop) (l1 : Int) (s : im_S) (Q : im_S → Prop) : Prop := (((wgf s 36) ≤ l1 → (W_findTimes s (fun s28 => (wloop (fun (K : Int × im_S → Prop) (a : Int × im_S) => W_findAll_83 K a.1 a.2 Q) (0, s28))))) ∧ (¬ ((wgf s 36) ≤ l1) → ((0 ≤ l1 ∧ l1 < 90) ∧ (W_join (wga s 603 l1) s (fun s32 => ((iR (l1 + 1)) ∧ (K53 ((l1 + 1), s32))))))))
def W_findAll_32 (K32 : Int × im_S → Prop) (l1 : Int) (s : im_S) (Q : im_S → Prop) : Prop := (((wgf s 6) ≤ l1 → (wloop (fun (K : Int × im_S → Prop) (a : Int × im_S) => W_findAll_53 K a.1 a.2 Q) (0, s))) ∧ (¬ ((wgf s 6) ≤ l1) → (W_part1 l1 s (fun s37 => ((iR (l1 + 1)) ∧ (K32 ((l1 + 1), s37)))))))
def W_findAll (s : im_S) (Q : im_S → Prop) : Prop := (∀ s40, s40 = wpf s 28 0 → (∀ s41, s41 = wpf s40 24 0 → (∀ s42, s42 = wpf s41 34 0 → (∀ s43, s43 = wpf s42 36 0 → (∀ s44, s44 = wpf s43 41 0 → (∀ s45, s45 = wpf s44 52 0 → (wloop (fun (K : Int × im_S → Prop) (a : Int × im_S) => W_findAll_32 K a.1 a.2 Q) (0, s45))))))))
set_option maxRecDepth 16384 in
theorem w_findAll (L : Nat) (ys : Nat → Int32) (d : Nat) (s : im_S) (hv : vI s) (Q : im_S → Prop) (hW : W_findAll s Q) : icV gG rm_P L ys (d + 11) 36 [(2, ((582 : Nat) : Int))] s (fun s9 => vI s9 ∧ Q s9) := by
  refine ic_startM (M := rm_p_X10_findAll) om_X10_findAll (Nat.le_of_ble_eq_true rfl) ?_
  refine ir_w [(0, (2, ((582 : Nat) : Int)))] ⟨rfl, trivial⟩ ?_
  have J104 : ∀ (I104 : Int × im_S → Prop) (r104 : Int × im_S → Nat) (hB104 : ∀ a : Int × im_S, I104 a → W_findAll_104 (fun b => I104 b ∧ r104 b < r104 a) a.1 a.2 Q), ∀ n104 : Nat, ∀ (l1 : Int) (l1r : iR l1) (s : im_S) (hv : vI s), I104 (l1, s) → r104 (l1, s) < n104 → ir gG rm_P L ys (d + 10) rm_p_X10_findAll (104, [(0, (2, ((582 : Nat) : Int))), (1, (0, l1))], [], s) (fun r : im_Re => r.1 = none ∧ (vI r.2 ∧ Q r.2)) := by
    intro I104 r104 hB104 n104
    induction n104 with
    | zero => intro l1 l1r s hv hI hr; exact absurd hr (Nat.not_lt_zero _)
    | succ n104 ih104 =>
      intro l1 l1r s hv hI hr104
      obtain ⟨t104, ht104⟩ : ∃ t104 : Int × im_S, t104 = (l1, s) := ⟨_, rfl⟩
      rw [← ht104] at hr104
      have hW : W_findAll_104 (fun b => I104 b ∧ r104 b < r104 t104) l1 s Q := by have z := hB104 (l1, s) hI; rw [ht104]; exact z
      have J154 : ∀ (l1 : Int) (l1r : iR l1) (l2 : Int) (l2r : iR l2) (s : im_S) (hv : vI s), W_findAll_154 (fun b => I104 b ∧ r104 b < r104 t104) l1 l2 s Q → ir gG rm_P L ys (d + 10) rm_p_X10_findAll (154, [(0, (2, ((582 : Nat) : Int))), (1, (0, l1)), (2, (0, l2))], [], s) (fun r : im_Re => r.1 = none ∧ (vI r.2 ∧ Q r.2)) := by
        intro l1 l1r l2 l2r s hv hW
        unfold W_findAll_154 at hW
        obtain ⟨h1, hW⟩ := hW
        refine ir_l (pc' := 155) rfl rfl rfl rfl rfl rfl ?_
        refine ir_vgr (pc' := 158) (c := 614) rfl rfl rfl rfl rfl hv ?_
        refine ir_l (pc' := 159) rfl rfl rfl rfl rfl rfl ?_
        refine ir_l (pc' := 160) rfl rfl rfl rfl rfl rfl ?_
        refine ir_vis (pc' := 161) rfl rfl vg_614 rfl (Nat.le_of_ble_eq_true rfl) hv rfl h1 l1r (fun s2 s2e s2v => ?_)
        have hW := hW s2 s2e
        obtain ⟨h3, hW⟩ := hW
        refine ir_inc (pc' := 164) rfl rfl rfl rfl rfl h3.1 h3.2 ?_
        refine ir_goto (pc' := 104) rfl rfl ?_
        refine ir_w [(0, (2, ((582 : Nat) : Int))), (1, (0, (l1 + 1)))] ⟨rfl, rfl, trivial⟩ ?_
        exact ih104 (l1 + 1) h3 s2 s2v hW.1 (Nat.lt_of_lt_of_le hW.2 (Nat.le_of_lt_succ hr104))
      have J114 : ∀ (l1 : Int) (l1r : iR l1) (I114 : Int × im_S → Prop) (r114 : Int × im_S → Nat) (hB114 : ∀ a : Int × im_S, I114 a → W_findAll_114 (fun b => I104 b ∧ r104 b < r104 t104) (fun b => I114 b ∧ r114 b < r114 a) l1 a.1 a.2 Q), ∀ n114 : Nat, ∀ (l2 : Int) (l2r : iR l2) (s : im_S) (hv : vI s), I114 (l2, s) → r114 (l2, s) < n114 → ir gG rm_P L ys (d + 10) rm_p_X10_findAll (114, [(0, (2, ((582 : Nat) : Int))), (1, (0, l1)), (2, (0, l2))], [], s) (fun r : im_Re => r.1 = none ∧ (vI r.2 ∧ Q r.2)) := by
        intro l1 l1r I114 r114 hB114 n114
        induction n114 with
        | zero => intro l2 l2r s hv hI hr; exact absurd hr (Nat.not_lt_zero _)
        | succ n114 ih114 =>
          intro l2 l2r s hv hI hr114
          obtain ⟨t114, ht114⟩ : ∃ t114 : Int × im_S, t114 = (l2, s) := ⟨_, rfl⟩
          rw [← ht114] at hr114
          have hW : W_findAll_114 (fun b => I104 b ∧ r104 b < r104 t104) (fun b => I114 b ∧ r114 b < r114 t114) l1 l2 s Q := by have z := hB114 (l2, s) hI; rw [ht114]; exact z
          unfold W_findAll_114 at hW
          refine ir_l (pc' := 115) rfl rfl rfl rfl rfl rfl ?_
          refine ir_z_le (pt := 154) (pc' := 118) rfl rfl rfl (fun c4 => ?_) (fun c4 => ?_)
          · have hW := hW.1 c4
            refine ir_w [(0, (2, ((582 : Nat) : Int))), (1, (0, l1)), (2, (0, l2))] ⟨rfl, rfl, rfl, trivial⟩ ?_
            exact J154 l1 l1r l2 l2r s hv hW
          · have hW := hW.2 c4
            obtain ⟨h6, hW⟩ := hW
            have h5 : iR (l2 - 1) := ⟨by omega, by omega⟩
            refine ir_l (pc' := 119) rfl rfl rfl rfl rfl rfl ?_
            refine ir_l (pc' := 120) rfl rfl rfl rfl rfl rfl ?_
            refine ir_l (pc' := 121) rfl rfl rfl rfl rfl rfl ?_
            refine ir_vgr (pc' := 124) (c := 614) rfl rfl rfl rfl rfl hv ?_
            refine ir_l (pc' := 125) rfl rfl rfl rfl rfl rfl ?_
            refine ir_k (pc' := 126) (v := (0, 1)) rfl rfl rfl (fun _ => rfl) ?_
            refine ir_sub (pc' := 127) rfl rfl h5.1 h5.2 ?_
            refine ir_via (pc' := 128) rfl rfl vg_614 rfl (Nat.le_of_ble_eq_true rfl) hv rfl h6 (fun r7 => ?_)
            refine ir_cVI (pc' := 131) rfl rfl rfl rfl rfl (Nat.le_of_ble_eq_true rfl) oo_X10_isBefore vg_582 (w_isBefore L ys (d + 2) s hv l1 l1r (wga s 614 (l2 - 1)) r7 _ hW) (fun z9 s8 hr => ?_)
            obtain ⟨s8v, z9r, hW⟩ := hr
            refine ir_z_eq (pt := 154) (pc' := 134) rfl rfl rfl (fun c10 => ?_) (fun c10 => ?_)
            · have hW := hW.1 c10
              refine ir_w [(0, (2, ((582 : Nat) : Int))), (1, (0, l1)), (2, (0, l2))] ⟨rfl, rfl, rfl, trivial⟩ ?_
              exact J154 l1 l1r l2 l2r s8 s8v hW
            · have hW := hW.2 c10
              obtain ⟨h12, h14, hW⟩ := hW
              have h11 : iR (l2 - 1) := ⟨by omega, by omega⟩
              refine ir_l (pc' := 135) rfl rfl rfl rfl rfl rfl ?_
              refine ir_vgr (pc' := 138) (c := 614) rfl rfl rfl rfl rfl s8v ?_
              refine ir_l (pc' := 139) rfl rfl rfl rfl rfl rfl ?_
              refine ir_l (pc' := 140) rfl rfl rfl rfl rfl rfl ?_
              refine ir_vgr (pc' := 143) (c := 614) rfl rfl rfl rfl rfl s8v ?_
              refine ir_l (pc' := 144) rfl rfl rfl rfl rfl rfl ?_
              refine ir_k (pc' := 145) (v := (0, 1)) rfl rfl rfl (fun _ => rfl) ?_
              refine ir_sub (pc' := 146) rfl rfl h11.1 h11.2 ?_
              refine ir_via (pc' := 147) rfl rfl vg_614 rfl (Nat.le_of_ble_eq_true rfl) s8v rfl h12 (fun r13 => ?_)
              refine ir_vis (pc' := 148) rfl rfl vg_614 rfl (Nat.le_of_ble_eq_true rfl) s8v rfl h14 r13 (fun s15 s15e s15v => ?_)
              have hW := hW s15 s15e
              obtain ⟨h16, hW⟩ := hW
              refine ir_inc (pc' := 151) rfl rfl rfl rfl rfl h16.1 h16.2 ?_
              refine ir_goto (pc' := 114) rfl rfl ?_
              refine ir_w [(0, (2, ((582 : Nat) : Int))), (1, (0, l1)), (2, (0, (l2 + (-1))))] ⟨rfl, rfl, rfl, trivial⟩ ?_
              exact ih114 (l2 + (-1)) h16 s15 s15v hW.1 (Nat.lt_of_lt_of_le hW.2 (Nat.le_of_lt_succ hr114))
      unfold W_findAll_104 at hW
      refine ir_l (pc' := 105) rfl rfl rfl rfl rfl rfl ?_
      refine ir_l (pc' := 106) rfl rfl rfl rfl rfl rfl ?_
      refine ir_vgi (pc' := 109) rfl rfl rfl rfl rfl hv (fun r17 => ?_)
      refine ir_c_ge (pt := 167) (pc' := 112) rfl rfl rfl (fun c18 => ?_) (fun c18 => ?_)
      · have hW := hW.1 c18
        refine ir_l (pc' := 168) rfl rfl rfl rfl rfl rfl ?_
        refine ir_cVV (pc' := 171) rfl rfl rfl rfl rfl (Nat.le_of_ble_eq_true rfl) oo_X10_signAll vg_582 (w_signAll L ys (d + 8) s hv  _ hW) (fun s19 hr => ?_)
        obtain ⟨s19v, hW⟩ := hr
        exact ir_vret rfl rfl ⟨rfl, s19v, hW⟩
      · have hW := hW.2 c18
        refine ir_l (pc' := 113) rfl rfl rfl rfl rfl rfl ?_
        refine ir_s (pc' := 114) rfl rfl rfl rfl rfl rfl ?_
        refine ir_w [(0, (2, ((582 : Nat) : Int))), (1, (0, l1)), (2, (0, l1))] ⟨rfl, rfl, rfl, trivial⟩ ?_
        obtain ⟨I9, r9, hI9, hB9⟩ := hW
        exact J114 l1 l1r I9 r9 hB9 _ l1 l1r s hv hI9 (Nat.lt_succ_self _)
  have J83 : ∀ (I83 : Int × im_S → Prop) (r83 : Int × im_S → Nat) (hB83 : ∀ a : Int × im_S, I83 a → W_findAll_83 (fun b => I83 b ∧ r83 b < r83 a) a.1 a.2 Q), ∀ n83 : Nat, ∀ (l1 : Int) (l1r : iR l1) (s : im_S) (hv : vI s), I83 (l1, s) → r83 (l1, s) < n83 → ir gG rm_P L ys (d + 10) rm_p_X10_findAll (83, [(0, (2, ((582 : Nat) : Int))), (1, (0, l1))], [], s) (fun r : im_Re => r.1 = none ∧ (vI r.2 ∧ Q r.2)) := by
    intro I83 r83 hB83 n83
    induction n83 with
    | zero => intro l1 l1r s hv hI hr; exact absurd hr (Nat.not_lt_zero _)
    | succ n83 ih83 =>
      intro l1 l1r s hv hI hr83
      obtain ⟨t83, ht83⟩ : ∃ t83 : Int × im_S, t83 = (l1, s) := ⟨_, rfl⟩
      rw [← ht83] at hr83
      have hW : W_findAll_83 (fun b => I83 b ∧ r83 b < r83 t83) l1 s Q := by have z := hB83 (l1, s) hI; rw [ht83]; exact z
      unfold W_findAll_83 at hW
      refine ir_l (pc' := 84) rfl rfl rfl rfl rfl rfl ?_
      refine ir_l (pc' := 85) rfl rfl rfl rfl rfl rfl ?_
      refine ir_vgi (pc' := 88) rfl rfl rfl rfl rfl hv (fun r21 => ?_)
      refine ir_c_ge (pt := 102) (pc' := 91) rfl rfl rfl (fun c22 => ?_) (fun c22 => ?_)
      · have hW := hW.1 c22
        refine ir_k (pc' := 103) (v := (0, 0)) rfl rfl rfl (fun _ => rfl) ?_
        refine ir_s (pc' := 104) rfl rfl rfl rfl rfl rfl ?_
        refine ir_w [(0, (2, ((582 : Nat) : Int))), (1, (0, 0))] ⟨rfl, rfl, trivial⟩ ?_
        obtain ⟨I9, r9, hI9, hB9⟩ := hW
        exact J104 I9 r9 hB9 _ 0 (zR_i (Or.inl rfl)) s hv hI9 (Nat.lt_succ_self _)
      · have hW := hW.2 c22
        refine ir_l (pc' := 92) rfl rfl rfl rfl rfl rfl ?_
        refine ir_l (pc' := 93) rfl rfl rfl rfl rfl rfl ?_
        refine ir_cVV (pc' := 96) rfl rfl rfl rfl rfl (Nat.le_of_ble_eq_true rfl) oo_X10_findRoots vg_582 (w_findRoots L ys d s hv l1 l1r _ hW) (fun s23 hr => ?_)
        obtain ⟨s23v, hW⟩ := hr
        obtain ⟨h25, hW⟩ := hW
        refine ir_inc (pc' := 99) rfl rfl rfl rfl rfl h25.1 h25.2 ?_
        refine ir_goto (pc' := 83) rfl rfl ?_
        refine ir_w [(0, (2, ((582 : Nat) : Int))), (1, (0, (l1 + 1)))] ⟨rfl, rfl, trivial⟩ ?_
        exact ih83 (l1 + 1) h25 s23 s23v hW.1 (Nat.lt_of_lt_of_le hW.2 (Nat.le_of_lt_succ hr83))
  have J53 : ∀ (I53 : Int × im_S → Prop) (r53 : Int × im_S → Nat) (hB53 : ∀ a : Int × im_S, I53 a → W_findAll_53 (fun b => I53 b ∧ r53 b < r53 a) a.1 a.2 Q), ∀ n53 : Nat, ∀ (l1 : Int) (l1r : iR l1) (s : im_S) (hv : vI s), I53 (l1, s) → r53 (l1, s) < n53 → ir gG rm_P L ys (d + 10) rm_p_X10_findAll (53, [(0, (2, ((582 : Nat) : Int))), (1, (0, l1))], [], s) (fun r : im_Re => r.1 = none ∧ (vI r.2 ∧ Q r.2)) := by
    intro I53 r53 hB53 n53
    induction n53 with
    | zero => intro l1 l1r s hv hI hr; exact absurd hr (Nat.not_lt_zero _)
    | succ n53 ih53 =>
      intro l1 l1r s hv hI hr53
      obtain ⟨t53, ht53⟩ : ∃ t53 : Int × im_S, t53 = (l1, s) := ⟨_, rfl⟩
      rw [← ht53] at hr53
      have hW : W_findAll_53 (fun b => I53 b ∧ r53 b < r53 t53) l1 s Q := by have z := hB53 (l1, s) hI; rw [ht53]; exact z
      unfold W_findAll_53 at hW
      refine ir_l (pc' := 54) rfl rfl rfl rfl rfl rfl ?_
      refine ir_l (pc' := 55) rfl rfl rfl rfl rfl rfl ?_
      refine ir_vgi (pc' := 58) rfl rfl rfl rfl rfl hv (fun r26 => ?_)
      refine ir_c_ge (pt := 77) (pc' := 61) rfl rfl rfl (fun c27 => ?_) (fun c27 => ?_)
      · have hW := hW.1 c27
        refine ir_l (pc' := 78) rfl rfl rfl rfl rfl rfl ?_
        refine ir_cVV (pc' := 81) rfl rfl rfl rfl rfl (Nat.le_of_ble_eq_true rfl) oo_X10_findTimes vg_582 (w_findTimes L ys d s hv  _ hW) (fun s28 hr => ?_)
        obtain ⟨s28v, hW⟩ := hr
        refine ir_k (pc' := 82) (v := (0, 0)) rfl rfl rfl (fun _ => rfl) ?_
        refine ir_s (pc' := 83) rfl rfl rfl rfl rfl rfl ?_
        refine ir_w [(0, (2, ((582 : Nat) : Int))), (1, (0, 0))] ⟨rfl, rfl, trivial⟩ ?_
        obtain ⟨I9, r9, hI9, hB9⟩ := hW
        exact J83 I9 r9 hB9 _ 0 (zR_i (Or.inl rfl)) s28 s28v hI9 (Nat.lt_succ_self _)
      · have hW := hW.2 c27
        obtain ⟨h30, hW⟩ := hW
        refine ir_l (pc' := 62) rfl rfl rfl rfl rfl rfl ?_
        refine ir_l (pc' := 63) rfl rfl rfl rfl rfl rfl ?_
        refine ir_vgr (pc' := 66) (c := 603) rfl rfl rfl rfl rfl hv ?_
        refine ir_l (pc' := 67) rfl rfl rfl rfl rfl rfl ?_
        refine ir_via (pc' := 68) rfl rfl vg_603 rfl (Nat.le_of_ble_eq_true rfl) hv rfl h30 (fun r31 => ?_)
        refine ir_cVV (pc' := 71) rfl rfl rfl rfl rfl (Nat.le_of_ble_eq_true rfl) oo_X10_join vg_582 (w_join L ys d s hv (wga s 603 l1) r31 _ hW) (fun s32 hr => ?_)
        obtain ⟨s32v, hW⟩ := hr
        obtain ⟨h34, hW⟩ := hW
        refine ir_inc (pc' := 74) rfl rfl rfl rfl rfl h34.1 h34.2 ?_
        refine ir_goto (pc' := 53) rfl rfl ?_
        refine ir_w [(0, (2, ((582 : Nat) : Int))), (1, (0, (l1 + 1)))] ⟨rfl, rfl, trivial⟩ ?_
        exact ih53 (l1 + 1) h34 s32 s32v hW.1 (Nat.lt_of_lt_of_le hW.2 (Nat.le_of_lt_succ hr53))
  have J32 : ∀ (I32 : Int × im_S → Prop) (r32 : Int × im_S → Nat) (hB32 : ∀ a : Int × im_S, I32 a → W_findAll_32 (fun b => I32 b ∧ r32 b < r32 a) a.1 a.2 Q), ∀ n32 : Nat, ∀ (l1 : Int) (l1r : iR l1) (s : im_S) (hv : vI s), I32 (l1, s) → r32 (l1, s) < n32 → ir gG rm_P L ys (d + 10) rm_p_X10_findAll (32, [(0, (2, ((582 : Nat) : Int))), (1, (0, l1))], [], s) (fun r : im_Re => r.1 = none ∧ (vI r.2 ∧ Q r.2)) := by
    intro I32 r32 hB32 n32
    induction n32 with
    | zero => intro l1 l1r s hv hI hr; exact absurd hr (Nat.not_lt_zero _)
    | succ n32 ih32 =>
      intro l1 l1r s hv hI hr32
      obtain ⟨t32, ht32⟩ : ∃ t32 : Int × im_S, t32 = (l1, s) := ⟨_, rfl⟩
      rw [← ht32] at hr32
      have hW : W_findAll_32 (fun b => I32 b ∧ r32 b < r32 t32) l1 s Q := by have z := hB32 (l1, s) hI; rw [ht32]; exact z
      unfold W_findAll_32 at hW
      refine ir_l (pc' := 33) rfl rfl rfl rfl rfl rfl ?_
      refine ir_l (pc' := 34) rfl rfl rfl rfl rfl rfl ?_
      refine ir_vgi (pc' := 37) rfl rfl rfl rfl rfl hv (fun r35 => ?_)
      refine ir_c_ge (pt := 51) (pc' := 40) rfl rfl rfl (fun c36 => ?_) (fun c36 => ?_)
      · have hW := hW.1 c36
        refine ir_k (pc' := 52) (v := (0, 0)) rfl rfl rfl (fun _ => rfl) ?_
        refine ir_s (pc' := 53) rfl rfl rfl rfl rfl rfl ?_
        refine ir_w [(0, (2, ((582 : Nat) : Int))), (1, (0, 0))] ⟨rfl, rfl, trivial⟩ ?_
        obtain ⟨I9, r9, hI9, hB9⟩ := hW
        exact J53 I9 r9 hB9 _ 0 (zR_i (Or.inl rfl)) s hv hI9 (Nat.lt_succ_self _)
      · have hW := hW.2 c36
        refine ir_l (pc' := 41) rfl rfl rfl rfl rfl rfl ?_
        refine ir_l (pc' := 42) rfl rfl rfl rfl rfl rfl ?_
        refine ir_cVV (pc' := 45) rfl rfl rfl rfl rfl (Nat.le_of_ble_eq_true rfl) oo_X10_part1 vg_582 (w_part1 L ys d s hv l1 l1r _ hW) (fun s37 hr => ?_)
        obtain ⟨s37v, hW⟩ := hr
        obtain ⟨h39, hW⟩ := hW
        refine ir_inc (pc' := 48) rfl rfl rfl rfl rfl h39.1 h39.2 ?_
        refine ir_goto (pc' := 32) rfl rfl ?_
        refine ir_w [(0, (2, ((582 : Nat) : Int))), (1, (0, (l1 + 1)))] ⟨rfl, rfl, trivial⟩ ?_
        exact ih32 (l1 + 1) h39 s37 s37v hW.1 (Nat.lt_of_lt_of_le hW.2 (Nat.le_of_lt_succ hr32))
  unfold W_findAll at hW
  refine ir_l (pc' := 1) rfl rfl rfl rfl rfl rfl ?_
  refine ir_k (pc' := 2) (v := (0, 0)) rfl rfl rfl (fun _ => rfl) ?_
  refine ir_vpi (pc' := 5) rfl rfl rfl rfl rfl rfl rfl hv (zR_i (Or.inl rfl)) (fun s40 s40e s40v => ?_)
  have hW := hW s40 s40e
  refine ir_l (pc' := 6) rfl rfl rfl rfl rfl rfl ?_
  refine ir_k (pc' := 7) (v := (0, 0)) rfl rfl rfl (fun _ => rfl) ?_
  refine ir_vpi (pc' := 10) rfl rfl rfl rfl rfl rfl rfl s40v (zR_i (Or.inl rfl)) (fun s41 s41e s41v => ?_)
  have hW := hW s41 s41e
  refine ir_l (pc' := 11) rfl rfl rfl rfl rfl rfl ?_
  refine ir_k (pc' := 12) (v := (0, 0)) rfl rfl rfl (fun _ => rfl) ?_
  refine ir_vpi (pc' := 15) rfl rfl rfl rfl rfl rfl rfl s41v (zR_i (Or.inl rfl)) (fun s42 s42e s42v => ?_)
  have hW := hW s42 s42e
  refine ir_l (pc' := 16) rfl rfl rfl rfl rfl rfl ?_
  refine ir_k (pc' := 17) (v := (0, 0)) rfl rfl rfl (fun _ => rfl) ?_
  refine ir_vpi (pc' := 20) rfl rfl rfl rfl rfl rfl rfl s42v (zR_i (Or.inl rfl)) (fun s43 s43e s43v => ?_)
  have hW := hW s43 s43e
  refine ir_l (pc' := 21) rfl rfl rfl rfl rfl rfl ?_
  refine ir_k (pc' := 22) (v := (0, 0)) rfl rfl rfl (fun _ => rfl) ?_
  refine ir_vpi (pc' := 25) rfl rfl rfl rfl rfl rfl rfl s43v (zR_i (Or.inl rfl)) (fun s44 s44e s44v => ?_)
  have hW := hW s44 s44e
  refine ir_l (pc' := 26) rfl rfl rfl rfl rfl rfl ?_
  refine ir_k (pc' := 27) (v := (0, 0)) rfl rfl rfl (fun _ => rfl) ?_
  refine ir_vpi (pc' := 30) rfl rfl rfl rfl rfl rfl rfl s44v (zR_i (Or.inl rfl)) (fun s45 s45e s45v => ?_)
  have hW := hW s45 s45e
  refine ir_k (pc' := 31) (v := (0, 0)) rfl rfl rfl (fun _ => rfl) ?_
  refine ir_s (pc' := 32) rfl rfl rfl rfl rfl rfl ?_
  refine ir_w [(0, (2, ((582 : Nat) : Int))), (1, (0, 0))] ⟨rfl, rfl, trivial⟩ ?_
  obtain ⟨I9, r9, hI9, hB9⟩ := hW
  exact J32 I9 r9 hB9 _ 0 (zR_i (Or.inl rfl)) s45 s45v hI9 (Nat.lt_succ_self _)
def W_floor (l0 : Int) (l2 : Int) (s : im_S) (Q : Int → im_S → Prop) : Prop := ((0 < l2) ∧ (¬ (0 ≤ (l0.tmod l2)) → lR ((l0.tdiv l2) - 1)) ∧ (∀ v203 : Int, v203 = (if 0 ≤ (l0.tmod l2) then (l0.tdiv l2) else ((l0.tdiv l2) - 1)) → (Q v203 s)))
set_option maxRecDepth 16384 in
theorem w_floor (L : Nat) (ys : Nat → Int32) (d : Nat) (s : im_S) (hv : vI s) (l0 : Int) (l0r : lR l0) (l2 : Int) (l2r : lR l2) (Q : Int → im_S → Prop) (hW : W_floor l0 l2 s Q) : icI gG rm_P L ys 1 (d + 1) 40 [(1, l0), (1, l2)] s (fun z9 s9 => vI s9 ∧ lR z9 ∧ Q z9 s9) := by
  refine ic_startM (M := rm_p_X10_floor) om_X10_floor (Nat.le_of_ble_eq_true rfl) ?_
  refine ir_w [(0, (1, l0)), (2, (1, l2))] ⟨rfl, rfl, trivial⟩ ?_
  unfold W_floor at hW
  obtain ⟨h1, h4, hW⟩ := hW
  refine ir_l (pc' := 1) rfl rfl rfl rfl rfl rfl ?_
  refine ir_l (pc' := 2) rfl rfl rfl rfl rfl rfl ?_
  refine ir_ldiv (pc' := 3) rfl rfl l0r.1 l0r.2 h1 l2r.2 ?_
  refine ir_s2 (pc' := 5) rfl rfl rfl rfl rfl rfl ?_
  refine ir_l (pc' := 6) rfl rfl rfl rfl rfl rfl ?_
  refine ir_l (pc' := 7) rfl rfl rfl rfl rfl rfl ?_
  refine ir_lrem (pc' := 8) rfl rfl l0r.1 l0r.2 h1 l2r.2 ?_
  refine ir_k (pc' := 9) (v := (1, 0)) rfl rfl rfl (fun _ => rfl) ?_
  refine ir_lcmp (pc' := 10) rfl rfl (w_tmod1 l0r h1 l2r).1 (w_tmod1 l0r h1 l2r).2 (⟨by decide, by decide⟩ : lR 0).1 (⟨by decide, by decide⟩ : lR 0).2 (fun z2 z2c => ?_)
  have J204 : ∀ v203 : Int, lR v203 → ((Q v203 s)) → ir gG rm_P L ys d rm_p_X10_floor (22, [], [(1, v203)], s) (fun r : im_Re => ∃ z, r.1 = some (1, z) ∧ (vI r.2 ∧ lR z ∧ Q z r.2)) := by
    intro v203 v203r hW
    exact ir_lret rfl rfl ⟨_, rfl, hv, v203r, hW⟩
  refine ir_z_ge (pt := 20) (pc' := 13) rfl rfl rfl (fun c3 => ?_) (fun c3 => ?_)
  · have c3 : 0 ≤ (l0.tmod l2) := by omega
    refine ir_l (pc' := 22) rfl rfl rfl rfl rfl rfl ?_
    refine ir_w [] trivial ?_
    exact J204 (l0.tdiv l2) (w_tdiv1 l0r h1 l2r) (hW _ (by rw [if_pos c3]))
  · have c3 : ¬ (0 ≤ (l0.tmod l2)) := by omega
    refine ir_l (pc' := 15) rfl rfl rfl rfl rfl rfl ?_
    refine ir_k (pc' := 16) (v := (1, 1)) rfl rfl rfl (fun _ => rfl) ?_
    refine ir_lsub (pc' := 17) rfl rfl (h4 c3).1 (h4 c3).2 ?_
    refine ir_goto (pc' := 22) rfl rfl ?_
    refine ir_w [] trivial ?_
    exact J204 ((l0.tdiv l2) - 1) (h4 c3) (hW _ (by rw [if_neg (fun z => c3 z)]))
def W_floorOf_29 (K29 : im_S → Prop) (l1 : Int) (l2 : Int) (s : im_S) (Q : Int → im_S → Prop) : Prop := ((0 ≤ l1 ∧ l1 < 90) ∧ (W_powerOfTwo (wga s 612 l1) s (fun z5 s4 => ((0 ≤ l1 ∧ l1 < 90) ∧ (W_whole l2 s4 (fun z9 s8 => (W_by (wga s4 611 l1) z9 s8 (fun z11 s10 => (W_over z11 z5 s10 (fun z13 s12 => (W_whole 1 s12 (fun z15 s14 => (W_plus z13 z15 s14 (fun z17 s16 => (W_by z17 z5 s16 (fun z19 s18 => ((0 ≤ l1 ∧ l1 < 90) ∧ (W_whole 1 s18 (fun z23 s22 => (W_plus (wga s18 611 l1) z23 s22 (fun z25 s24 => (W_whole l2 s24 (fun z27 s26 => (W_by z25 z27 s26 (fun z29 s28 => (W_compare z29 z19 s28 (fun z31 s30 => (∀ v232 : Int, v232 = (if 0 < z31 then 0 else 1) → (W_valueOf z13 s30 (fun z235 s234 => (∀ s236, s236 = wpf s234 24 (wgf s 24) → ((v232 = 0 → (W_refine l1 s236 (fun s238 => (K29 (s238))))) ∧ (¬ (v232 = 0) → (Q z235 s236))))))))))))))))))))))))))))))))))
def W_floorOf (l1 : Int) (l2 : Int) (s : im_S) (Q : Int → im_S → Prop) : Prop := ((0 ≤ l1 ∧ l1 < 90) ∧ (((wga s 609 l1) ≤ 0 → (wloop (fun (K : im_S → Prop) (a : im_S) => W_floorOf_29 K l1 l2 a Q) (s))) ∧ (¬ ((wga s 609 l1) ≤ 0) → ((0 ≤ l1 ∧ l1 < 90) ∧ (lR ((wga s 608 l1) * l2)) ∧ (W_floor ((wga s 608 l1) * l2) (wga s 609 l1) s (fun z249 s248 => (Q z249 s248)))))))
set_option maxRecDepth 16384 in
theorem w_floorOf (L : Nat) (ys : Nat → Int32) (d : Nat) (s : im_S) (hv : vI s) (l1 : Int) (l1r : iR l1) (l2 : Int) (l2r : lR l2) (Q : Int → im_S → Prop) (hW : W_floorOf l1 l2 s Q) : icI gG rm_P L ys 1 (d + 7) 41 [(2, ((582 : Nat) : Int)), (0, l1), (1, l2)] s (fun z9 s9 => vI s9 ∧ lR z9 ∧ Q z9 s9) := by
  refine ic_startM (M := rm_p_X10_floorOf) om_X10_floorOf (Nat.le_of_ble_eq_true rfl) ?_
  refine ir_w [(0, (2, ((582 : Nat) : Int))), (1, (0, l1)), (2, (1, l2))] ⟨rfl, rfl, rfl, trivial⟩ ?_
  have J29 : ∀ (l1 : Int) (l1r : iR l1) (l2 : Int) (l2r : lR l2) (I29 : im_S → Prop) (r29 : im_S → Nat) (hB29 : ∀ a : im_S, I29 a → W_floorOf_29 (fun b => I29 b ∧ r29 b < r29 a) l1 l2 a Q), ∀ n29 : Nat, ∀ (s : im_S) (hv : vI s), I29 (s) → r29 (s) < n29 → ir gG rm_P L ys (d + 6) rm_p_X10_floorOf (29, [(0, (2, ((582 : Nat) : Int))), (1, (0, l1)), (2, (1, l2))], [], s) (fun r : im_Re => ∃ z, r.1 = some (1, z) ∧ (vI r.2 ∧ lR z ∧ Q z r.2)) := by
    intro l1 l1r l2 l2r I29 r29 hB29 n29
    induction n29 with
    | zero => intro s hv hI hr; exact absurd hr (Nat.not_lt_zero _)
    | succ n29 ih29 =>
      intro s hv hI hr29
      obtain ⟨t29, ht29⟩ : ∃ t29 : im_S, t29 = (s) := ⟨_, rfl⟩
      rw [← ht29] at hr29
      have hW : W_floorOf_29 (fun b => I29 b ∧ r29 b < r29 t29) l1 l2 s Q := by have z := hB29 (s) hI; rw [ht29]; exact z
      unfold W_floorOf_29 at hW
      obtain ⟨h2, hW⟩ := hW
      refine ir_l (pc' := 30) rfl rfl rfl rfl rfl rfl ?_
      refine ir_vgi (pc' := 33) rfl rfl rfl rfl rfl hv (fun r1 => ?_)
      refine ir_s (pc' := 35) rfl rfl rfl rfl rfl rfl ?_
      refine ir_l (pc' := 36) rfl rfl rfl rfl rfl rfl ?_
      refine ir_l (pc' := 37) rfl rfl rfl rfl rfl rfl ?_
      refine ir_vgr (pc' := 40) (c := 612) rfl rfl rfl rfl rfl hv ?_
      refine ir_l (pc' := 41) rfl rfl rfl rfl rfl rfl ?_
      refine ir_via (pc' := 42) rfl rfl vg_612 rfl (Nat.le_of_ble_eq_true rfl) hv rfl h2 (fun r3 => ?_)
      refine ir_cVI (pc' := 45) rfl rfl rfl rfl rfl (Nat.le_of_ble_eq_true rfl) oo_X10_powerOfTwo vg_582 (w_powerOfTwo L ys (d + 2) s hv (wga s 612 l1) r3 _ hW) (fun z5 s4 hr => ?_)
      obtain ⟨s4v, z5r, hW⟩ := hr
      obtain ⟨h6, hW⟩ := hW
      refine ir_s (pc' := 47) rfl rfl rfl rfl rfl rfl ?_
      refine ir_l (pc' := 48) rfl rfl rfl rfl rfl rfl ?_
      refine ir_l (pc' := 49) rfl rfl rfl rfl rfl rfl ?_
      refine ir_l (pc' := 50) rfl rfl rfl rfl rfl rfl ?_
      refine ir_vgr (pc' := 53) (c := 611) rfl rfl rfl rfl rfl s4v ?_
      refine ir_l (pc' := 54) rfl rfl rfl rfl rfl rfl ?_
      refine ir_via (pc' := 55) rfl rfl vg_611 rfl (Nat.le_of_ble_eq_true rfl) s4v rfl h6 (fun r7 => ?_)
      refine ir_l (pc' := 56) rfl rfl rfl rfl rfl rfl ?_
      refine ir_l (pc' := 57) rfl rfl rfl rfl rfl rfl ?_
      refine ir_cVI (pc' := 60) rfl rfl rfl rfl rfl (Nat.le_of_ble_eq_true rfl) oo_X10_whole vg_582 (w_whole L ys (d + 5) s4 s4v l2 l2r _ hW) (fun z9 s8 hr => ?_)
      obtain ⟨s8v, z9r, hW⟩ := hr
      refine ir_cVI (pc' := 63) rfl rfl rfl rfl rfl (Nat.le_of_ble_eq_true rfl) oo_X10_by vg_582 (w_by L ys (d + 4) s8 s8v (wga s4 611 l1) r7 z9 z9r _ hW) (fun z11 s10 hr => ?_)
      obtain ⟨s10v, z11r, hW⟩ := hr
      refine ir_l (pc' := 65) rfl rfl rfl rfl rfl rfl ?_
      refine ir_cVI (pc' := 68) rfl rfl rfl rfl rfl (Nat.le_of_ble_eq_true rfl) oo_X10_over vg_582 (w_over L ys d s10 s10v z11 z11r z5 z5r _ hW) (fun z13 s12 hr => ?_)
      obtain ⟨s12v, z13r, hW⟩ := hr
      refine ir_s (pc' := 70) rfl rfl rfl rfl rfl rfl ?_
      refine ir_l (pc' := 71) rfl rfl rfl rfl rfl rfl ?_
      refine ir_l (pc' := 72) rfl rfl rfl rfl rfl rfl ?_
      refine ir_l (pc' := 74) rfl rfl rfl rfl rfl rfl ?_
      refine ir_l (pc' := 75) rfl rfl rfl rfl rfl rfl ?_
      refine ir_k (pc' := 76) (v := (1, 1)) rfl rfl rfl (fun _ => rfl) ?_
      refine ir_cVI (pc' := 79) rfl rfl rfl rfl rfl (Nat.le_of_ble_eq_true rfl) oo_X10_whole vg_582 (w_whole L ys (d + 5) s12 s12v 1 (⟨by decide, by decide⟩ : lR 1) _ hW) (fun z15 s14 hr => ?_)
      obtain ⟨s14v, z15r, hW⟩ := hr
      refine ir_cVI (pc' := 82) rfl rfl rfl rfl rfl (Nat.le_of_ble_eq_true rfl) oo_X10_plus vg_582 (w_plus L ys (d + 2) s14 s14v z13 z13r z15 z15r _ hW) (fun z17 s16 hr => ?_)
      obtain ⟨s16v, z17r, hW⟩ := hr
      refine ir_l (pc' := 84) rfl rfl rfl rfl rfl rfl ?_
      refine ir_cVI (pc' := 87) rfl rfl rfl rfl rfl (Nat.le_of_ble_eq_true rfl) oo_X10_by vg_582 (w_by L ys (d + 4) s16 s16v z17 z17r z5 z5r _ hW) (fun z19 s18 hr => ?_)
      obtain ⟨s18v, z19r, hW⟩ := hr
      obtain ⟨h20, hW⟩ := hW
      refine ir_s (pc' := 89) rfl rfl rfl rfl rfl rfl ?_
      refine ir_l (pc' := 90) rfl rfl rfl rfl rfl rfl ?_
      refine ir_l (pc' := 91) rfl rfl rfl rfl rfl rfl ?_
      refine ir_l (pc' := 92) rfl rfl rfl rfl rfl rfl ?_
      refine ir_l (pc' := 93) rfl rfl rfl rfl rfl rfl ?_
      refine ir_vgr (pc' := 96) (c := 611) rfl rfl rfl rfl rfl s18v ?_
      refine ir_l (pc' := 97) rfl rfl rfl rfl rfl rfl ?_
      refine ir_via (pc' := 98) rfl rfl vg_611 rfl (Nat.le_of_ble_eq_true rfl) s18v rfl h20 (fun r21 => ?_)
      refine ir_l (pc' := 99) rfl rfl rfl rfl rfl rfl ?_
      refine ir_k (pc' := 100) (v := (1, 1)) rfl rfl rfl (fun _ => rfl) ?_
      refine ir_cVI (pc' := 103) rfl rfl rfl rfl rfl (Nat.le_of_ble_eq_true rfl) oo_X10_whole vg_582 (w_whole L ys (d + 5) s18 s18v 1 (⟨by decide, by decide⟩ : lR 1) _ hW) (fun z23 s22 hr => ?_)
      obtain ⟨s22v, z23r, hW⟩ := hr
      refine ir_cVI (pc' := 106) rfl rfl rfl rfl rfl (Nat.le_of_ble_eq_true rfl) oo_X10_plus vg_582 (w_plus L ys (d + 2) s22 s22v (wga s18 611 l1) r21 z23 z23r _ hW) (fun z25 s24 hr => ?_)
      obtain ⟨s24v, z25r, hW⟩ := hr
      refine ir_l (pc' := 107) rfl rfl rfl rfl rfl rfl ?_
      refine ir_l (pc' := 108) rfl rfl rfl rfl rfl rfl ?_
      refine ir_cVI (pc' := 111) rfl rfl rfl rfl rfl (Nat.le_of_ble_eq_true rfl) oo_X10_whole vg_582 (w_whole L ys (d + 5) s24 s24v l2 l2r _ hW) (fun z27 s26 hr => ?_)
      obtain ⟨s26v, z27r, hW⟩ := hr
      refine ir_cVI (pc' := 114) rfl rfl rfl rfl rfl (Nat.le_of_ble_eq_true rfl) oo_X10_by vg_582 (w_by L ys (d + 4) s26 s26v z25 z25r z27 z27r _ hW) (fun z29 s28 hr => ?_)
      obtain ⟨s28v, z29r, hW⟩ := hr
      refine ir_l (pc' := 116) rfl rfl rfl rfl rfl rfl ?_
      refine ir_cVI (pc' := 119) rfl rfl rfl rfl rfl (Nat.le_of_ble_eq_true rfl) oo_X10_compare vg_582 (w_compare L ys (d + 3) s28 s28v z29 z29r z19 z19r _ hW) (fun z31 s30 hr => ?_)
      obtain ⟨s30v, z31r, hW⟩ := hr
      have J233 : ∀ v232 : Int, zR v232 → ((W_valueOf z13 s30 (fun z235 s234 => (∀ s236, s236 = wpf s234 24 (wgf s 24) → ((v232 = 0 → (W_refine l1 s236 (fun s238 => ((fun b => I29 b ∧ r29 b < r29 t29) (s238))))) ∧ (¬ (v232 = 0) → (Q z235 s236))))))) → ir gG rm_P L ys (d + 6) rm_p_X10_floorOf (127, [(0, (2, ((582 : Nat) : Int))), (1, (0, l1)), (2, (1, l2)), (4, (0, (wgf s 24))), (6, (0, z13))], [(0, v232)], s30) (fun r : im_Re => ∃ z, r.1 = some (1, z) ∧ (vI r.2 ∧ lR z ∧ Q z r.2)) := by
        intro v232 v232r hW
        refine ir_s (pc' := 129) rfl rfl rfl rfl rfl rfl ?_
        refine ir_l (pc' := 130) rfl rfl rfl rfl rfl rfl ?_
        refine ir_l (pc' := 132) rfl rfl rfl rfl rfl rfl ?_
        refine ir_cVI (pc' := 135) rfl rfl rfl rfl rfl (Nat.le_of_ble_eq_true rfl) oo_X10_valueOf vg_582 (w_valueOf L ys (d + 4) s30 s30v z13 z13r _ hW) (fun z235 s234 hr => ?_)
        obtain ⟨s234v, z235r, hW⟩ := hr
        refine ir_s2 (pc' := 137) rfl rfl rfl rfl rfl rfl ?_
        refine ir_l (pc' := 138) rfl rfl rfl rfl rfl rfl ?_
        refine ir_l (pc' := 140) rfl rfl rfl rfl rfl rfl ?_
        refine ir_vpi (pc' := 143) rfl rfl rfl rfl rfl rfl rfl s234v r1 (fun s236 s236e s236v => ?_)
        have hW := hW s236 s236e
        refine ir_l (pc' := 145) rfl rfl rfl rfl rfl rfl ?_
        refine ir_z_eq (pt := 151) (pc' := 148) rfl rfl rfl (fun c237 => ?_) (fun c237 => ?_)
        · have hW := hW.1 c237
          refine ir_l (pc' := 152) rfl rfl rfl rfl rfl rfl ?_
          refine ir_l (pc' := 153) rfl rfl rfl rfl rfl rfl ?_
          refine ir_cVV (pc' := 156) rfl rfl rfl rfl rfl (Nat.le_of_ble_eq_true rfl) oo_X10_refine vg_582 (w_refine L ys d s236 s236v l1 l1r _ hW) (fun s238 hr => ?_)
          obtain ⟨s238v, hW⟩ := hr
          refine ir_goto (pc' := 29) rfl rfl ?_
          refine ir_w [(0, (2, ((582 : Nat) : Int))), (1, (0, l1)), (2, (1, l2))] ⟨rfl, rfl, rfl, trivial⟩ ?_
          exact ih29 s238 s238v hW.1 (Nat.lt_of_lt_of_le hW.2 (Nat.le_of_lt_succ hr29))
        · have hW := hW.2 c237
          refine ir_l (pc' := 150) rfl rfl rfl rfl rfl rfl ?_
          exact ir_lret rfl rfl ⟨_, rfl, s236v, z235r, hW⟩
      refine ir_z_gt (pt := 126) (pc' := 122) rfl rfl rfl (fun c32 => ?_) (fun c32 => ?_)
      · refine ir_k (pc' := 127) (v := (0, 0)) rfl rfl rfl (fun _ => rfl) ?_
        refine ir_w [(0, (2, ((582 : Nat) : Int))), (1, (0, l1)), (2, (1, l2)), (4, (0, (wgf s 24))), (6, (0, z13))] ⟨rfl, rfl, rfl, rfl, rfl, trivial⟩ ?_
        exact J233 0 (Or.inl rfl) (hW _ (by rw [if_pos c32]))
      · refine ir_k (pc' := 123) (v := (0, 1)) rfl rfl rfl (fun _ => rfl) ?_
        refine ir_goto (pc' := 127) rfl rfl ?_
        refine ir_w [(0, (2, ((582 : Nat) : Int))), (1, (0, l1)), (2, (1, l2)), (4, (0, (wgf s 24))), (6, (0, z13))] ⟨rfl, rfl, rfl, rfl, rfl, trivial⟩ ?_
        exact J233 1 (Or.inr rfl) (hW _ (by rw [if_neg (fun z => c32 z)]))
  unfold W_floorOf at hW
  obtain ⟨h240, hW⟩ := hW
  refine ir_l (pc' := 1) rfl rfl rfl rfl rfl rfl ?_
  refine ir_vgr (pc' := 4) (c := 609) rfl rfl rfl rfl rfl hv ?_
  refine ir_l (pc' := 5) rfl rfl rfl rfl rfl rfl ?_
  refine ir_vla (pc' := 6) rfl rfl vg_609 rfl (Nat.le_of_ble_eq_true rfl) hv rfl h240 (fun r241 => ?_)
  refine ir_k (pc' := 7) (v := (1, 0)) rfl rfl rfl (fun _ => rfl) ?_
  refine ir_lcmp (pc' := 8) rfl rfl r241.1 r241.2 (⟨by decide, by decide⟩ : lR 0).1 (⟨by decide, by decide⟩ : lR 0).2 (fun z242 z242c => ?_)
  refine ir_z_le (pt := 29) (pc' := 11) rfl rfl rfl (fun c243 => ?_) (fun c243 => ?_)
  · have c243 : (wga s 609 l1) ≤ 0 := by omega
    have hW := hW.1 c243
    refine ir_w [(0, (2, ((582 : Nat) : Int))), (1, (0, l1)), (2, (1, l2))] ⟨rfl, rfl, rfl, trivial⟩ ?_
    obtain ⟨I9, r9, hI9, hB9⟩ := hW
    exact J29 l1 l1r l2 l2r I9 r9 hB9 _ s hv hI9 (Nat.lt_succ_self _)
  · have c243 : ¬ ((wga s 609 l1) ≤ 0) := by omega
    have hW := hW.2 c243
    obtain ⟨h244, h246, hW⟩ := hW
    refine ir_l (pc' := 12) rfl rfl rfl rfl rfl rfl ?_
    refine ir_vgr (pc' := 15) (c := 608) rfl rfl rfl rfl rfl hv ?_
    refine ir_l (pc' := 16) rfl rfl rfl rfl rfl rfl ?_
    refine ir_vla (pc' := 17) rfl rfl vg_608 rfl (Nat.le_of_ble_eq_true rfl) hv rfl h244 (fun r245 => ?_)
    refine ir_l (pc' := 18) rfl rfl rfl rfl rfl rfl ?_
    refine ir_lmul (pc' := 19) rfl rfl h246.1 h246.2 ?_
    refine ir_l (pc' := 20) rfl rfl rfl rfl rfl rfl ?_
    refine ir_vgr (pc' := 23) (c := 609) rfl rfl rfl rfl rfl hv ?_
    refine ir_l (pc' := 24) rfl rfl rfl rfl rfl rfl ?_
    refine ir_vla (pc' := 25) rfl rfl vg_609 rfl (Nat.le_of_ble_eq_true rfl) hv rfl h244 (fun r247 => ?_)
    refine ir_cSI (pc' := 28) rfl rfl rfl rfl rfl rfl (Nat.le_of_ble_eq_true rfl) (w_floor L ys (d + 5) s hv ((wga s 608 l1) * l2) h246 (wga s 609 l1) r247 _ hW) (fun z249 s248 hr => ?_)
    obtain ⟨s248v, z249r, hW⟩ := hr
    exact ir_lret rfl rfl ⟨_, rfl, s248v, z249r, hW⟩
def W_isCell_24 (k0 : Int) (s : im_S) (Q : Int → im_S → Prop) : Prop := (Q k0 s)
def W_isCell_23 (s : im_S) (Q : Int → im_S → Prop) : Prop := (W_isCell_24 0 s Q)
def W_isCell (l1 : Int) (s : im_S) (Q : Int → im_S → Prop) : Prop := (((wgf s 5) = 0 → (W_isCell_23 s Q)) ∧ (¬ ((wgf s 5) = 0) → ((l1 < 0 → (W_isCell_23 s Q)) ∧ (¬ (l1 < 0) → (W_cells s (fun z5 s4 => (∀ v206 : Int, v206 = (if z5 ≤ l1 then 0 else 1) → (W_isCell_24 v206 s4 Q))))))))
set_option maxRecDepth 16384 in
theorem w_isCell (L : Nat) (ys : Nat → Int32) (d : Nat) (s : im_S) (hv : vI s) (l1 : Int) (l1r : iR l1) (Q : Int → im_S → Prop) (hW : W_isCell l1 s Q) : icI gG rm_P L ys 0 (d + 2) 51 [(2, ((582 : Nat) : Int)), (0, l1)] s (fun z9 s9 => vI s9 ∧ zR z9 ∧ Q z9 s9) := by
  refine ic_startM (M := rm_p_X10_isCell) om_X10_isCell (Nat.le_of_ble_eq_true rfl) ?_
  refine ir_w [(0, (2, ((582 : Nat) : Int))), (1, (0, l1))] ⟨rfl, rfl, trivial⟩ ?_
  have J24 : ∀ (k0 : Int) (k0r : zR k0) (s : im_S) (hv : vI s), W_isCell_24 k0 s Q → ir gG rm_P L ys (d + 1) rm_p_X10_isCell (24, [], [(0, k0)], s) (fun r : im_Re => ∃ z, r.1 = some (0, z) ∧ (vI r.2 ∧ zR z ∧ Q z r.2)) := by
    intro k0 k0r s hv hW
    unfold W_isCell_24 at hW
    exact ir_zret rfl rfl k0r ⟨_, rfl, hv, k0r, hW⟩
  have J23 : ∀ (s : im_S) (hv : vI s), W_isCell_23 s Q → ir gG rm_P L ys (d + 1) rm_p_X10_isCell (23, [], [], s) (fun r : im_Re => ∃ z, r.1 = some (0, z) ∧ (vI r.2 ∧ zR z ∧ Q z r.2)) := by
    intro s hv hW
    unfold W_isCell_23 at hW
    refine ir_k (pc' := 24) (v := (0, 0)) rfl rfl rfl (fun _ => rfl) ?_
    refine ir_w [] trivial ?_
    exact J24 0 (Or.inl rfl) s hv hW
  unfold W_isCell at hW
  refine ir_l (pc' := 1) rfl rfl rfl rfl rfl rfl ?_
  refine ir_vgz (pc' := 4) rfl rfl rfl rfl rfl hv (fun r1 => ?_)
  refine ir_z_eq (pt := 23) (pc' := 7) rfl rfl rfl (fun c2 => ?_) (fun c2 => ?_)
  · have hW := hW.1 c2
    refine ir_w [] trivial ?_
    exact J23 s hv hW
  · have hW := hW.2 c2
    refine ir_l (pc' := 8) rfl rfl rfl rfl rfl rfl ?_
    refine ir_z_lt (pt := 23) (pc' := 11) rfl rfl rfl (fun c3 => ?_) (fun c3 => ?_)
    · have hW := hW.1 c3
      refine ir_w [] trivial ?_
      exact J23 s hv hW
    · have hW := hW.2 c3
      refine ir_l (pc' := 12) rfl rfl rfl rfl rfl rfl ?_
      refine ir_l (pc' := 13) rfl rfl rfl rfl rfl rfl ?_
      refine ir_cVI (pc' := 16) rfl rfl rfl rfl rfl (Nat.le_of_ble_eq_true rfl) oo_X10_cells vg_582 (w_cells L ys d s hv  _ hW) (fun z5 s4 hr => ?_)
      obtain ⟨s4v, z5r, hW⟩ := hr
      have J207 : ∀ v206 : Int, zR v206 → ((W_isCell_24 v206 s4 Q)) → ir gG rm_P L ys (d + 1) rm_p_X10_isCell (24, [], [(0, v206)], s4) (fun r : im_Re => ∃ z, r.1 = some (0, z) ∧ (vI r.2 ∧ zR z ∧ Q z r.2)) := by
        intro v206 v206r hW
        refine ir_w [] trivial ?_
        exact J24 v206 v206r s4 s4v hW
      refine ir_c_ge (pt := 23) (pc' := 19) rfl rfl rfl (fun c6 => ?_) (fun c6 => ?_)
      · refine ir_k (pc' := 24) (v := (0, 0)) rfl rfl rfl (fun _ => rfl) ?_
        refine ir_w [] trivial ?_
        exact J207 0 (Or.inl rfl) (hW _ (by rw [if_pos c6]))
      · refine ir_k (pc' := 20) (v := (0, 1)) rfl rfl rfl (fun _ => rfl) ?_
        refine ir_goto (pc' := 24) rfl rfl ?_
        refine ir_w [] trivial ?_
        exact J207 1 (Or.inr rfl) (hW _ (by rw [if_neg (fun z => c6 z)]))
def W_holds (l1 : Int) (s : im_S) (Q : Int → im_S → Prop) : Prop := (W_isCell l1 s (fun z2 s1 => ((¬ (z2 = 0) → (0 ≤ l1 ∧ l1 < 200)) ∧ (∀ v203 : Int, v203 = (if z2 = 0 then (-1) else (if (wga s1 618 l1) = 0 then 0 else 1)) → (Q v203 s1)))))
set_option maxRecDepth 16384 in
theorem w_holds (L : Nat) (ys : Nat → Int32) (d : Nat) (s : im_S) (hv : vI s) (l1 : Int) (l1r : iR l1) (Q : Int → im_S → Prop) (hW : W_holds l1 s Q) : icI gG rm_P L ys 0 (d + 3) 47 [(2, ((582 : Nat) : Int)), (0, l1)] s (fun z9 s9 => vI s9 ∧ iR z9 ∧ Q z9 s9) := by
  refine ic_startM (M := rm_p_X10_holds) om_X10_holds (Nat.le_of_ble_eq_true rfl) ?_
  refine ir_w [(0, (2, ((582 : Nat) : Int))), (1, (0, l1))] ⟨rfl, rfl, trivial⟩ ?_
  unfold W_holds at hW
  refine ir_l (pc' := 1) rfl rfl rfl rfl rfl rfl ?_
  refine ir_l (pc' := 2) rfl rfl rfl rfl rfl rfl ?_
  refine ir_cVI (pc' := 5) rfl rfl rfl rfl rfl (Nat.le_of_ble_eq_true rfl) oo_X10_isCell vg_582 (w_isCell L ys d s hv l1 l1r _ hW) (fun z2 s1 hr => ?_)
  obtain ⟨s1v, z2r, hW⟩ := hr
  obtain ⟨h4, hW⟩ := hW
  have J204 : ∀ v203 : Int, iR v203 → ((Q v203 s1)) → ir gG rm_P L ys (d + 2) rm_p_X10_holds (26, [], [(0, v203)], s1) (fun r : im_Re => ∃ z, r.1 = some (0, z) ∧ (vI r.2 ∧ iR z ∧ Q z r.2)) := by
    intro v203 v203r hW
    exact ir_iret rfl rfl ⟨_, rfl, s1v, v203r, hW⟩
  refine ir_z_eq (pt := 25) (pc' := 8) rfl rfl rfl (fun c3 => ?_) (fun c3 => ?_)
  · refine ir_k (pc' := 26) (v := (0, (-1))) rfl rfl rfl (fun _ => rfl) ?_
    refine ir_w [] trivial ?_
    exact J204 (-1) (⟨by decide, by decide⟩ : iR (-1)) (hW _ (by rw [if_pos c3]))
  · refine ir_l (pc' := 9) rfl rfl rfl rfl rfl rfl ?_
    refine ir_vgr (pc' := 12) (c := 618) rfl rfl rfl rfl rfl s1v ?_
    refine ir_l (pc' := 13) rfl rfl rfl rfl rfl rfl ?_
    refine ir_vba (pc' := 14) rfl rfl vg_618 rfl (Nat.le_of_ble_eq_true rfl) s1v rfl (h4 c3) (fun r5 => ?_)
    refine ir_z_eq (pt := 21) (pc' := 17) rfl rfl rfl (fun c6 => ?_) (fun c6 => ?_)
    · refine ir_k (pc' := 22) (v := (0, 0)) rfl rfl rfl (fun _ => rfl) ?_
      refine ir_goto (pc' := 26) rfl rfl ?_
      refine ir_w [] trivial ?_
      exact J204 0 (zR_i (Or.inl rfl)) (hW _ (by rw [if_neg (fun z => c3 z), if_pos c6]))
    · refine ir_k (pc' := 18) (v := (0, 1)) rfl rfl rfl (fun _ => rfl) ?_
      refine ir_goto (pc' := 26) rfl rfl ?_
      refine ir_w [] trivial ?_
      exact J204 1 (zR_i (Or.inr rfl)) (hW _ (by rw [if_neg (fun z => c3 z), if_neg (fun z => c6 z)]))
def W_isSign (l0 : Int) (s : im_S) (Q : Int → im_S → Prop) : Prop := (∀ v201 : Int, v201 = (if l0 < 32 then 0 else (if 126 < l0 then 0 else 1)) → (Q v201 s))
set_option maxRecDepth 16384 in
theorem w_isSign (L : Nat) (ys : Nat → Int32) (d : Nat) (s : im_S) (hv : vI s) (l0 : Int) (l0r : iR l0) (Q : Int → im_S → Prop) (hW : W_isSign l0 s Q) : icI gG rm_P L ys 0 (d + 1) 56 [(0, l0)] s (fun z9 s9 => vI s9 ∧ zR z9 ∧ Q z9 s9) := by
  refine ic_startM (M := rm_p_X10_isSign) om_X10_isSign (Nat.le_of_ble_eq_true rfl) ?_
  refine ir_w [(0, (0, l0))] ⟨rfl, trivial⟩ ?_
  unfold W_isSign at hW
  refine ir_l (pc' := 1) rfl rfl rfl rfl rfl rfl ?_
  refine ir_k (pc' := 3) (v := (0, 32)) rfl rfl rfl (fun _ => rfl) ?_
  have J202 : ∀ v201 : Int, zR v201 → ((Q v201 s)) → ir gG rm_P L ys d rm_p_X10_isSign (17, [], [(0, v201)], s) (fun r : im_Re => ∃ z, r.1 = some (0, z) ∧ (vI r.2 ∧ zR z ∧ Q z r.2)) := by
    intro v201 v201r hW
    exact ir_zret rfl rfl v201r ⟨_, rfl, hv, v201r, hW⟩
  refine ir_c_lt (pt := 16) (pc' := 6) rfl rfl rfl (fun c1 => ?_) (fun c1 => ?_)
  · refine ir_k (pc' := 17) (v := (0, 0)) rfl rfl rfl (fun _ => rfl) ?_
    refine ir_w [] trivial ?_
    exact J202 0 (Or.inl rfl) (hW _ (by rw [if_pos c1]))
  · refine ir_l (pc' := 7) rfl rfl rfl rfl rfl rfl ?_
    refine ir_k (pc' := 9) (v := (0, 126)) rfl rfl rfl (fun _ => rfl) ?_
    refine ir_c_gt (pt := 16) (pc' := 12) rfl rfl rfl (fun c2 => ?_) (fun c2 => ?_)
    · refine ir_k (pc' := 17) (v := (0, 0)) rfl rfl rfl (fun _ => rfl) ?_
      refine ir_w [] trivial ?_
      exact J202 0 (Or.inl rfl) (hW _ (by rw [if_neg (fun z => c1 z), if_pos c2]))
    · refine ir_k (pc' := 13) (v := (0, 1)) rfl rfl rfl (fun _ => rfl) ?_
      refine ir_goto (pc' := 17) rfl rfl ?_
      refine ir_w [] trivial ?_
      exact J202 1 (Or.inr rfl) (hW _ (by rw [if_neg (fun z => c1 z), if_neg (fun z => c2 z)]))
def W_make (l1 : Int) (s : im_S) (Q : im_S → Prop) : Prop := ((0 ≤ (wgf s 10) ∧ (wgf s 10) < 500) ∧ (∀ s3, s3 = wpa s 586 (wgf s 10) l1 → ((iR ((wgf s3 10) + 1)) ∧ (∀ s6, s6 = wpf s3 10 ((wgf s3 10) + 1) → (Q s6)))))
set_option maxRecDepth 16384 in
theorem w_make (L : Nat) (ys : Nat → Int32) (d : Nat) (s : im_S) (hv : vI s) (l1 : Int) (l1r : iR l1) (Q : im_S → Prop) (hW : W_make l1 s Q) : icV gG rm_P L ys (d + 1) 67 [(2, ((582 : Nat) : Int)), (0, l1)] s (fun s9 => vI s9 ∧ Q s9) := by
  refine ic_startM (M := rm_p_X10_make) om_X10_make (Nat.le_of_ble_eq_true rfl) ?_
  refine ir_w [(0, (2, ((582 : Nat) : Int))), (1, (0, l1))] ⟨rfl, rfl, trivial⟩ ?_
  unfold W_make at hW
  obtain ⟨h2, hW⟩ := hW
  refine ir_l (pc' := 1) rfl rfl rfl rfl rfl rfl ?_
  refine ir_vgr (pc' := 4) (c := 586) rfl rfl rfl rfl rfl hv ?_
  refine ir_l (pc' := 5) rfl rfl rfl rfl rfl rfl ?_
  refine ir_vgi (pc' := 8) rfl rfl rfl rfl rfl hv (fun r1 => ?_)
  refine ir_l (pc' := 9) rfl rfl rfl rfl rfl rfl ?_
  refine ir_vis (pc' := 10) rfl rfl vg_586 rfl (Nat.le_of_ble_eq_true rfl) hv rfl h2 l1r (fun s3 s3e s3v => ?_)
  have hW := hW s3 s3e
  obtain ⟨h5, hW⟩ := hW
  refine ir_l (pc' := 11) rfl rfl rfl rfl rfl rfl ?_
  refine ir_x (pc' := 12) rfl rfl rfl (fun _ => rfl) ?_
  refine ir_vgi (pc' := 15) rfl rfl rfl rfl rfl s3v (fun r4 => ?_)
  refine ir_k (pc' := 16) (v := (0, 1)) rfl rfl rfl (fun _ => rfl) ?_
  refine ir_add (pc' := 17) rfl rfl h5.1 h5.2 ?_
  refine ir_vpi (pc' := 20) rfl rfl rfl rfl rfl rfl rfl s3v h5 (fun s6 s6e s6v => ?_)
  have hW := hW s6 s6e
  exact ir_vret rfl rfl ⟨rfl, s6v, hW⟩
def W_settle_64 (s : im_S) (Q : im_S → Prop) : Prop := (Q s)
def W_settle_0 (K0 : im_S → Prop) (l1 : Int) (s : im_S) (Q : im_S → Prop) : Prop := (((wgf s 12) ≤ 0 → (W_settle_64 s Q)) ∧ (¬ ((wgf s 12) ≤ 0) → ((0 ≤ ((wgf s 12) - 1) ∧ ((wgf s 12) - 1) < 500) ∧ (((wga s 587 ((wgf s 12) - 1)) < l1 → (W_settle_64 s Q)) ∧ (¬ ((wga s 587 ((wgf s 12) - 1)) < l1) → ((0 ≤ ((wgf s 12) - 1) ∧ ((wgf s 12) - 1) < 500) ∧ (((wga s 587 ((wgf s 12) - 1)) = (-4) → (W_settle_64 s Q)) ∧ (¬ ((wga s 587 ((wgf s 12) - 1)) = (-4)) → ((iR ((wgf s 12) - 1)) ∧ (∀ s15, s15 = wpf s 12 ((wgf s 12) - 1) → ((0 ≤ (wgf s15 12) ∧ (wgf s15 12) < 500) ∧ (W_make (wga s15 587 (wgf s15 12)) s15 (fun s19 => (K0 (s19)))))))))))))))
def W_settle (l1 : Int) (s : im_S) (Q : im_S → Prop) : Prop := (wloop (fun (K : im_S → Prop) (a : im_S) => W_settle_0 K l1 a Q) (s))
set_option maxRecDepth 16384 in
theorem w_settle (L : Nat) (ys : Nat → Int32) (d : Nat) (s : im_S) (hv : vI s) (l1 : Int) (l1r : iR l1) (Q : im_S → Prop) (hW : W_settle l1 s Q) : icV gG rm_P L ys (d + 2) 91 [(2, ((582 : Nat) : Int)), (0, l1)] s (fun s9 => vI s9 ∧ Q s9) := by
  refine ic_startM (M := rm_p_X10_settle) om_X10_settle (Nat.le_of_ble_eq_true rfl) ?_
  refine ir_w [(0, (2, ((582 : Nat) : Int))), (1, (0, l1))] ⟨rfl, rfl, trivial⟩ ?_
  have J64 : ∀ (s : im_S) (hv : vI s), W_settle_64 s Q → ir gG rm_P L ys (d + 1) rm_p_X10_settle (64, [], [], s) (fun r : im_Re => r.1 = none ∧ (vI r.2 ∧ Q r.2)) := by
    intro s hv hW
    unfold W_settle_64 at hW
    exact ir_vret rfl rfl ⟨rfl, hv, hW⟩
  have J0 : ∀ (l1 : Int) (l1r : iR l1) (I0 : im_S → Prop) (r0 : im_S → Nat) (hB0 : ∀ a : im_S, I0 a → W_settle_0 (fun b => I0 b ∧ r0 b < r0 a) l1 a Q), ∀ n0 : Nat, ∀ (s : im_S) (hv : vI s), I0 (s) → r0 (s) < n0 → ir gG rm_P L ys (d + 1) rm_p_X10_settle (0, [(0, (2, ((582 : Nat) : Int))), (1, (0, l1))], [], s) (fun r : im_Re => r.1 = none ∧ (vI r.2 ∧ Q r.2)) := by
    intro l1 l1r I0 r0 hB0 n0
    induction n0 with
    | zero => intro s hv hI hr; exact absurd hr (Nat.not_lt_zero _)
    | succ n0 ih0 =>
      intro s hv hI hr0
      obtain ⟨t0, ht0⟩ : ∃ t0 : im_S, t0 = (s) := ⟨_, rfl⟩
      rw [← ht0] at hr0
      have hW : W_settle_0 (fun b => I0 b ∧ r0 b < r0 t0) l1 s Q := by have z := hB0 (s) hI; rw [ht0]; exact z
      unfold W_settle_0 at hW
      refine ir_l (pc' := 1) rfl rfl rfl rfl rfl rfl ?_
      refine ir_vgi (pc' := 4) rfl rfl rfl rfl rfl hv (fun r1 => ?_)
      refine ir_z_le (pt := 64) (pc' := 7) rfl rfl rfl (fun c2 => ?_) (fun c2 => ?_)
      · have hW := hW.1 c2
        refine ir_w [] trivial ?_
        exact J64 s hv hW
      · have hW := hW.2 c2
        obtain ⟨h5, hW⟩ := hW
        have h4 : iR ((wgf s 12) - 1) := ⟨by omega, by omega⟩
        refine ir_l (pc' := 8) rfl rfl rfl rfl rfl rfl ?_
        refine ir_vgr (pc' := 11) (c := 587) rfl rfl rfl rfl rfl hv ?_
        refine ir_l (pc' := 12) rfl rfl rfl rfl rfl rfl ?_
        refine ir_vgi (pc' := 15) rfl rfl rfl rfl rfl hv (fun r3 => ?_)
        refine ir_k (pc' := 16) (v := (0, 1)) rfl rfl rfl (fun _ => rfl) ?_
        refine ir_sub (pc' := 17) rfl rfl h4.1 h4.2 ?_
        refine ir_via (pc' := 18) rfl rfl vg_587 rfl (Nat.le_of_ble_eq_true rfl) hv rfl h5 (fun r6 => ?_)
        refine ir_l (pc' := 19) rfl rfl rfl rfl rfl rfl ?_
        refine ir_c_lt (pt := 64) (pc' := 22) rfl rfl rfl (fun c7 => ?_) (fun c7 => ?_)
        · have hW := hW.1 c7
          refine ir_w [] trivial ?_
          exact J64 s hv hW
        · have hW := hW.2 c7
          obtain ⟨h10, hW⟩ := hW
          have h9 : iR ((wgf s 12) - 1) := ⟨by omega, by omega⟩
          refine ir_l (pc' := 23) rfl rfl rfl rfl rfl rfl ?_
          refine ir_vgr (pc' := 26) (c := 587) rfl rfl rfl rfl rfl hv ?_
          refine ir_l (pc' := 27) rfl rfl rfl rfl rfl rfl ?_
          refine ir_vgi (pc' := 30) rfl rfl rfl rfl rfl hv (fun r8 => ?_)
          refine ir_k (pc' := 31) (v := (0, 1)) rfl rfl rfl (fun _ => rfl) ?_
          refine ir_sub (pc' := 32) rfl rfl h9.1 h9.2 ?_
          refine ir_via (pc' := 33) rfl rfl vg_587 rfl (Nat.le_of_ble_eq_true rfl) hv rfl h10 (fun r11 => ?_)
          refine ir_k (pc' := 35) (v := (0, (-4))) rfl rfl rfl (fun _ => rfl) ?_
          refine ir_c_eq (pt := 64) (pc' := 38) rfl rfl rfl (fun c12 => ?_) (fun c12 => ?_)
          · have hW := hW.1 c12
            refine ir_w [] trivial ?_
            exact J64 s hv hW
          · have hW := hW.2 c12
            obtain ⟨h14, hW⟩ := hW
            refine ir_l (pc' := 39) rfl rfl rfl rfl rfl rfl ?_
            refine ir_x (pc' := 40) rfl rfl rfl (fun _ => rfl) ?_
            refine ir_vgi (pc' := 43) rfl rfl rfl rfl rfl hv (fun r13 => ?_)
            refine ir_k (pc' := 44) (v := (0, 1)) rfl rfl rfl (fun _ => rfl) ?_
            refine ir_sub (pc' := 45) rfl rfl h14.1 h14.2 ?_
            refine ir_vpi (pc' := 48) rfl rfl rfl rfl rfl rfl rfl hv h14 (fun s15 s15e s15v => ?_)
            have hW := hW s15 s15e
            obtain ⟨h17, hW⟩ := hW
            refine ir_l (pc' := 49) rfl rfl rfl rfl rfl rfl ?_
            refine ir_l (pc' := 50) rfl rfl rfl rfl rfl rfl ?_
            refine ir_vgr (pc' := 53) (c := 587) rfl rfl rfl rfl rfl s15v ?_
            refine ir_l (pc' := 54) rfl rfl rfl rfl rfl rfl ?_
            refine ir_vgi (pc' := 57) rfl rfl rfl rfl rfl s15v (fun r16 => ?_)
            refine ir_via (pc' := 58) rfl rfl vg_587 rfl (Nat.le_of_ble_eq_true rfl) s15v rfl h17 (fun r18 => ?_)
            refine ir_cVV (pc' := 61) rfl rfl rfl rfl rfl (Nat.le_of_ble_eq_true rfl) oo_X10_make vg_582 (w_make L ys d s15 s15v (wga s15 587 (wgf s15 12)) r18 _ hW) (fun s19 hr => ?_)
            obtain ⟨s19v, hW⟩ := hr
            refine ir_goto (pc' := 0) rfl rfl ?_
            refine ir_w [(0, (2, ((582 : Nat) : Int))), (1, (0, l1))] ⟨rfl, rfl, trivial⟩ ?_
            exact ih0 s19 s19v hW.1 (Nat.lt_of_lt_of_le hW.2 (Nat.le_of_lt_succ hr0))
  unfold W_settle at hW
  refine ir_w [(0, (2, ((582 : Nat) : Int))), (1, (0, l1))] ⟨rfl, rfl, trivial⟩ ?_
  obtain ⟨I9, r9, hI9, hB9⟩ := hW
  exact J0 l1 l1r I9 r9 hB9 _ s hv hI9 (Nat.lt_succ_self _)
def W_wait1 (l1 : Int) (s : im_S) (Q : im_S → Prop) : Prop := ((0 ≤ (wgf s 12) ∧ (wgf s 12) < 500) ∧ (∀ s3, s3 = wpa s 587 (wgf s 12) l1 → ((iR ((wgf s3 12) + 1)) ∧ (∀ s6, s6 = wpf s3 12 ((wgf s3 12) + 1) → (Q s6)))))
set_option maxRecDepth 16384 in
theorem w_wait1 (L : Nat) (ys : Nat → Int32) (d : Nat) (s : im_S) (hv : vI s) (l1 : Int) (l1r : iR l1) (Q : im_S → Prop) (hW : W_wait1 l1 s Q) : icV gG rm_P L ys (d + 1) 105 [(2, ((582 : Nat) : Int)), (0, l1)] s (fun s9 => vI s9 ∧ Q s9) := by
  refine ic_startM (M := rm_p_X10_wait1) om_X10_wait1 (Nat.le_of_ble_eq_true rfl) ?_
  refine ir_w [(0, (2, ((582 : Nat) : Int))), (1, (0, l1))] ⟨rfl, rfl, trivial⟩ ?_
  unfold W_wait1 at hW
  obtain ⟨h2, hW⟩ := hW
  refine ir_l (pc' := 1) rfl rfl rfl rfl rfl rfl ?_
  refine ir_vgr (pc' := 4) (c := 587) rfl rfl rfl rfl rfl hv ?_
  refine ir_l (pc' := 5) rfl rfl rfl rfl rfl rfl ?_
  refine ir_vgi (pc' := 8) rfl rfl rfl rfl rfl hv (fun r1 => ?_)
  refine ir_l (pc' := 9) rfl rfl rfl rfl rfl rfl ?_
  refine ir_vis (pc' := 10) rfl rfl vg_587 rfl (Nat.le_of_ble_eq_true rfl) hv rfl h2 l1r (fun s3 s3e s3v => ?_)
  have hW := hW s3 s3e
  obtain ⟨h5, hW⟩ := hW
  refine ir_l (pc' := 11) rfl rfl rfl rfl rfl rfl ?_
  refine ir_x (pc' := 12) rfl rfl rfl (fun _ => rfl) ?_
  refine ir_vgi (pc' := 15) rfl rfl rfl rfl rfl s3v (fun r4 => ?_)
  refine ir_k (pc' := 16) (v := (0, 1)) rfl rfl rfl (fun _ => rfl) ?_
  refine ir_add (pc' := 17) rfl rfl h5.1 h5.2 ?_
  refine ir_vpi (pc' := 20) rfl rfl rfl rfl rfl rfl rfl s3v h5 (fun s6 s6e s6v => ?_)
  have hW := hW s6 s6e
  exact ir_vret rfl rfl ⟨rfl, s6v, hW⟩
def W_takeBase_157 (s : im_S) (Q : Int → im_S → Prop) : Prop := (Q 0 s)
def W_takeBase_146 (s : im_S) (Q : Int → im_S → Prop) : Prop := (W_good s (fun z2 s1 => ((z2 = 0 → (W_takeBase_157 s1 Q)) ∧ (¬ (z2 = 0) → (W_endBase s1 (fun s4 => (W_takeBase_157 s4 Q)))))))
def W_takeBase_2 (K2 : Int × im_S → Prop) (l1 : Int) (l2 : Int) (s : im_S) (Q : Int → im_S → Prop) : Prop := ((9 ≤ l2 → (W_isDigit l1 s (fun z8 s7 => ((z8 = 0 → ((¬ (l1 = 120) → ((¬ (l1 = 40) → (W_cannot s7 (fun s12 => (W_takeBase_146 s12 Q)))) ∧ (l1 = 40 → ((¬ ((wgf s7 21) = 10) → ((iR ((wgf s7 4) + 1)) ∧ (∀ s18, s18 = wpf s7 4 ((wgf s7 4) + 1) → ((iR ((wgf s18 21) + 1)) ∧ (∀ s21, s21 = wpf s18 21 ((wgf s18 21) + 1) → (W_beginSum s21 (fun s22 => (Q 1 s22)))))))) ∧ ((wgf s7 21) = 10 → (W_fail 3 (wgf s7 4) s7 (fun s25 => (Q 1 s25)))))))) ∧ (l1 = 120 → ((iR (9 * (wgf s7 21))) ∧ (0 ≤ ((9 * (wgf s7 21)) + 1) ∧ ((9 * (wgf s7 21)) + 1) < 108) ∧ (∀ s31, s31 = wpa s7 591 ((9 * (wgf s7 21)) + 1) 1 → ((iR ((wgf s31 4) + 1)) ∧ (∀ s34, s34 = wpf s31 4 ((wgf s31 4) + 1) → (W_takeBase_146 s34 Q)))))))) ∧ (¬ (z8 = 0) → ((iR (9 * (wgf s7 21))) ∧ (W_number s7 (fun z38 s37 => ((0 ≤ (9 * (wgf s7 21)) ∧ (9 * (wgf s7 21)) < 108) ∧ (∀ s40, s40 = wpa s37 591 (9 * (wgf s7 21)) z38 → (W_takeBase_146 s40 Q))))))))))) ∧ (¬ (9 ≤ l2) → ((iR (9 * (wgf s 21))) ∧ (0 ≤ ((9 * (wgf s 21)) + l2) ∧ ((9 * (wgf s 21)) + l2) < 108) ∧ (∀ s45, s45 = wpa s 591 ((9 * (wgf s 21)) + l2) 0 → ((iR (l2 + 1)) ∧ (K2 ((l2 + 1), s45)))))))
def W_takeBase (l1 : Int) (s : im_S) (Q : Int → im_S → Prop) : Prop := (wloop (fun (K : Int × im_S → Prop) (a : Int × im_S) => W_takeBase_2 K l1 a.1 a.2 Q) (0, s))
set_option maxRecDepth 16384 in
theorem w_takeBase (L : Nat) (ys : Nat → Int32) (d : Nat) (s : im_S) (hv : vI s) (l1 : Int) (l1r : iR l1) (Q : Int → im_S → Prop) (hW : W_takeBase l1 s Q) : icI gG rm_P L ys 0 (d + 5) 100 [(2, ((582 : Nat) : Int)), (0, l1)] s (fun z9 s9 => vI s9 ∧ zR z9 ∧ Q z9 s9) := by
  refine ic_startM (M := rm_p_X10_takeBase) om_X10_takeBase (Nat.le_of_ble_eq_true rfl) ?_
  refine ir_w [(0, (2, ((582 : Nat) : Int))), (1, (0, l1))] ⟨rfl, rfl, trivial⟩ ?_
  have J157 : ∀ (s : im_S) (hv : vI s), W_takeBase_157 s Q → ir gG rm_P L ys (d + 4) rm_p_X10_takeBase (157, [], [], s) (fun r : im_Re => ∃ z, r.1 = some (0, z) ∧ (vI r.2 ∧ zR z ∧ Q z r.2)) := by
    intro s hv hW
    unfold W_takeBase_157 at hW
    refine ir_k (pc' := 158) (v := (0, 0)) rfl rfl rfl (fun _ => rfl) ?_
    exact ir_zret rfl rfl (Or.inl rfl) ⟨_, rfl, hv, (Or.inl rfl), hW⟩
  have J146 : ∀ (s : im_S) (hv : vI s), W_takeBase_146 s Q → ir gG rm_P L ys (d + 4) rm_p_X10_takeBase (146, [(0, (2, ((582 : Nat) : Int)))], [], s) (fun r : im_Re => ∃ z, r.1 = some (0, z) ∧ (vI r.2 ∧ zR z ∧ Q z r.2)) := by
    intro s hv hW
    unfold W_takeBase_146 at hW
    refine ir_l (pc' := 147) rfl rfl rfl rfl rfl rfl ?_
    refine ir_cVI (pc' := 150) rfl rfl rfl rfl rfl (Nat.le_of_ble_eq_true rfl) oo_X10_good vg_582 (w_good L ys (d + 3) s hv  _ hW) (fun z2 s1 hr => ?_)
    obtain ⟨s1v, z2r, hW⟩ := hr
    refine ir_z_eq (pt := 157) (pc' := 153) rfl rfl rfl (fun c3 => ?_) (fun c3 => ?_)
    · have hW := hW.1 c3
      refine ir_w [] trivial ?_
      exact J157 s1 s1v hW
    · have hW := hW.2 c3
      refine ir_l (pc' := 154) rfl rfl rfl rfl rfl rfl ?_
      refine ir_cVV (pc' := 157) rfl rfl rfl rfl rfl (Nat.le_of_ble_eq_true rfl) oo_X10_endBase vg_582 (w_endBase L ys d s1 s1v  _ hW) (fun s4 hr => ?_)
      obtain ⟨s4v, hW⟩ := hr
      refine ir_w [] trivial ?_
      exact J157 s4 s4v hW
  have J2 : ∀ (l1 : Int) (l1r : iR l1) (I2 : Int × im_S → Prop) (r2 : Int × im_S → Nat) (hB2 : ∀ a : Int × im_S, I2 a → W_takeBase_2 (fun b => I2 b ∧ r2 b < r2 a) l1 a.1 a.2 Q), ∀ n2 : Nat, ∀ (l2 : Int) (l2r : iR l2) (s : im_S) (hv : vI s), I2 (l2, s) → r2 (l2, s) < n2 → ir gG rm_P L ys (d + 4) rm_p_X10_takeBase (2, [(0, (2, ((582 : Nat) : Int))), (1, (0, l1)), (2, (0, l2))], [], s) (fun r : im_Re => ∃ z, r.1 = some (0, z) ∧ (vI r.2 ∧ zR z ∧ Q z r.2)) := by
    intro l1 l1r I2 r2 hB2 n2
    induction n2 with
    | zero => intro l2 l2r s hv hI hr; exact absurd hr (Nat.not_lt_zero _)
    | succ n2 ih2 =>
      intro l2 l2r s hv hI hr2
      obtain ⟨t2, ht2⟩ : ∃ t2 : Int × im_S, t2 = (l2, s) := ⟨_, rfl⟩
      rw [← ht2] at hr2
      have hW : W_takeBase_2 (fun b => I2 b ∧ r2 b < r2 t2) l1 l2 s Q := by have z := hB2 (l2, s) hI; rw [ht2]; exact z
      unfold W_takeBase_2 at hW
      refine ir_l (pc' := 3) rfl rfl rfl rfl rfl rfl ?_
      refine ir_k (pc' := 5) (v := (0, 9)) rfl rfl rfl (fun _ => rfl) ?_
      refine ir_c_ge (pt := 29) (pc' := 8) rfl rfl rfl (fun c6 => ?_) (fun c6 => ?_)
      · have hW := hW.1 c6
        refine ir_l (pc' := 30) rfl rfl rfl rfl rfl rfl ?_
        refine ir_cSI (pc' := 33) rfl rfl rfl rfl rfl rfl (Nat.le_of_ble_eq_true rfl) (w_isDigit L ys (d + 3) s hv l1 l1r _ hW) (fun z8 s7 hr => ?_)
        obtain ⟨s7v, z8r, hW⟩ := hr
        refine ir_z_eq (pt := 56) (pc' := 36) rfl rfl rfl (fun c9 => ?_) (fun c9 => ?_)
        · have hW := hW.1 c9
          refine ir_l (pc' := 57) rfl rfl rfl rfl rfl rfl ?_
          refine ir_k (pc' := 59) (v := (0, 120)) rfl rfl rfl (fun _ => rfl) ?_
          refine ir_c_ne (pt := 90) (pc' := 62) rfl rfl rfl (fun c10 => ?_) (fun c10 => ?_)
          · have hW := hW.1 c10
            refine ir_l (pc' := 91) rfl rfl rfl rfl rfl rfl ?_
            refine ir_k (pc' := 93) (v := (0, 40)) rfl rfl rfl (fun _ => rfl) ?_
            refine ir_c_ne (pt := 142) (pc' := 96) rfl rfl rfl (fun c11 => ?_) (fun c11 => ?_)
            · have hW := hW.1 c11
              refine ir_l (pc' := 143) rfl rfl rfl rfl rfl rfl ?_
              refine ir_cVV (pc' := 146) rfl rfl rfl rfl rfl (Nat.le_of_ble_eq_true rfl) oo_X10_cannot vg_582 (w_cannot L ys (d + 1) s7 s7v  _ hW) (fun s12 hr => ?_)
              obtain ⟨s12v, hW⟩ := hr
              refine ir_w [(0, (2, ((582 : Nat) : Int)))] ⟨rfl, trivial⟩ ?_
              exact J146 s12 s12v hW
            · have hW := hW.2 c11
              refine ir_l (pc' := 97) rfl rfl rfl rfl rfl rfl ?_
              refine ir_vgi (pc' := 100) rfl rfl rfl rfl rfl s7v (fun r14 => ?_)
              refine ir_k (pc' := 102) (v := (0, 10)) rfl rfl rfl (fun _ => rfl) ?_
              refine ir_c_ne (pt := 116) (pc' := 105) rfl rfl rfl (fun c15 => ?_) (fun c15 => ?_)
              · have hW := hW.1 c15
                obtain ⟨h17, hW⟩ := hW
                refine ir_l (pc' := 117) rfl rfl rfl rfl rfl rfl ?_
                refine ir_x (pc' := 118) rfl rfl rfl (fun _ => rfl) ?_
                refine ir_vgi (pc' := 121) rfl rfl rfl rfl rfl s7v (fun r16 => ?_)
                refine ir_k (pc' := 122) (v := (0, 1)) rfl rfl rfl (fun _ => rfl) ?_
                refine ir_add (pc' := 123) rfl rfl h17.1 h17.2 ?_
                refine ir_vpi (pc' := 126) rfl rfl rfl rfl rfl rfl rfl s7v h17 (fun s18 s18e s18v => ?_)
                have hW := hW s18 s18e
                obtain ⟨h20, hW⟩ := hW
                refine ir_l (pc' := 127) rfl rfl rfl rfl rfl rfl ?_
                refine ir_x (pc' := 128) rfl rfl rfl (fun _ => rfl) ?_
                refine ir_vgi (pc' := 131) rfl rfl rfl rfl rfl s18v (fun r19 => ?_)
                refine ir_k (pc' := 132) (v := (0, 1)) rfl rfl rfl (fun _ => rfl) ?_
                refine ir_add (pc' := 133) rfl rfl h20.1 h20.2 ?_
                refine ir_vpi (pc' := 136) rfl rfl rfl rfl rfl rfl rfl s18v h20 (fun s21 s21e s21v => ?_)
                have hW := hW s21 s21e
                refine ir_l (pc' := 137) rfl rfl rfl rfl rfl rfl ?_
                refine ir_cVV (pc' := 140) rfl rfl rfl rfl rfl (Nat.le_of_ble_eq_true rfl) oo_X10_beginSum vg_582 (w_beginSum L ys (d + 2) s21 s21v  _ hW) (fun s22 hr => ?_)
                obtain ⟨s22v, hW⟩ := hr
                refine ir_k (pc' := 141) (v := (0, 1)) rfl rfl rfl (fun _ => rfl) ?_
                exact ir_zret rfl rfl (Or.inr rfl) ⟨_, rfl, s22v, (Or.inr rfl), hW⟩
              · have hW := hW.2 c15
                refine ir_l (pc' := 106) rfl rfl rfl rfl rfl rfl ?_
                refine ir_k (pc' := 107) (v := (0, 3)) rfl rfl rfl (fun _ => rfl) ?_
                refine ir_l (pc' := 108) rfl rfl rfl rfl rfl rfl ?_
                refine ir_vgi (pc' := 111) rfl rfl rfl rfl rfl s7v (fun r24 => ?_)
                refine ir_cVV (pc' := 114) rfl rfl rfl rfl rfl (Nat.le_of_ble_eq_true rfl) oo_X10_fail vg_582 (w_fail L ys (d + 3) s7 s7v 3 (⟨by decide, by decide⟩ : iR 3) (wgf s7 4) r24 _ hW) (fun s25 hr => ?_)
                obtain ⟨s25v, hW⟩ := hr
                refine ir_k (pc' := 115) (v := (0, 1)) rfl rfl rfl (fun _ => rfl) ?_
                exact ir_zret rfl rfl (Or.inr rfl) ⟨_, rfl, s25v, (Or.inr rfl), hW⟩
          · have hW := hW.2 c10
            obtain ⟨h28, h30, hW⟩ := hW
            have h29 : iR ((9 * (wgf s7 21)) + 1) := ⟨by omega, by omega⟩
            refine ir_l (pc' := 63) rfl rfl rfl rfl rfl rfl ?_
            refine ir_vgr (pc' := 66) (c := 591) rfl rfl rfl rfl rfl s7v ?_
            refine ir_k (pc' := 68) (v := (0, 9)) rfl rfl rfl (fun _ => rfl) ?_
            refine ir_l (pc' := 69) rfl rfl rfl rfl rfl rfl ?_
            refine ir_vgi (pc' := 72) rfl rfl rfl rfl rfl s7v (fun r27 => ?_)
            refine ir_mul (pc' := 73) rfl rfl h28.1 h28.2 ?_
            refine ir_k (pc' := 74) (v := (0, 1)) rfl rfl rfl (fun _ => rfl) ?_
            refine ir_add (pc' := 75) rfl rfl h29.1 h29.2 ?_
            refine ir_k (pc' := 76) (v := (1, 1)) rfl rfl rfl (fun _ => rfl) ?_
            refine ir_vls (pc' := 77) rfl rfl vg_591 rfl (Nat.le_of_ble_eq_true rfl) s7v rfl h30 (⟨by decide, by decide⟩ : lR 1) (fun s31 s31e s31v => ?_)
            have hW := hW s31 s31e
            obtain ⟨h33, hW⟩ := hW
            refine ir_l (pc' := 78) rfl rfl rfl rfl rfl rfl ?_
            refine ir_x (pc' := 79) rfl rfl rfl (fun _ => rfl) ?_
            refine ir_vgi (pc' := 82) rfl rfl rfl rfl rfl s31v (fun r32 => ?_)
            refine ir_k (pc' := 83) (v := (0, 1)) rfl rfl rfl (fun _ => rfl) ?_
            refine ir_add (pc' := 84) rfl rfl h33.1 h33.2 ?_
            refine ir_vpi (pc' := 87) rfl rfl rfl rfl rfl rfl rfl s31v h33 (fun s34 s34e s34v => ?_)
            have hW := hW s34 s34e
            refine ir_goto (pc' := 146) rfl rfl ?_
            refine ir_w [(0, (2, ((582 : Nat) : Int)))] ⟨rfl, trivial⟩ ?_
            exact J146 s34 s34v hW
        · have hW := hW.2 c9
          obtain ⟨h36, hW⟩ := hW
          refine ir_l (pc' := 37) rfl rfl rfl rfl rfl rfl ?_
          refine ir_vgr (pc' := 40) (c := 591) rfl rfl rfl rfl rfl s7v ?_
          refine ir_k (pc' := 42) (v := (0, 9)) rfl rfl rfl (fun _ => rfl) ?_
          refine ir_l (pc' := 43) rfl rfl rfl rfl rfl rfl ?_
          refine ir_vgi (pc' := 46) rfl rfl rfl rfl rfl s7v (fun r35 => ?_)
          refine ir_mul (pc' := 47) rfl rfl h36.1 h36.2 ?_
          refine ir_l (pc' := 48) rfl rfl rfl rfl rfl rfl ?_
          refine ir_cVI (pc' := 51) rfl rfl rfl rfl rfl (Nat.le_of_ble_eq_true rfl) oo_X10_number vg_582 (w_number L ys (d + 2) s7 s7v  _ hW) (fun z38 s37 hr => ?_)
          obtain ⟨s37v, z38r, hW⟩ := hr
          obtain ⟨h39, hW⟩ := hW
          refine ir_i2l (pc' := 52) rfl rfl z38r.1 z38r.2 ?_
          refine ir_vls (pc' := 53) rfl rfl vg_591 rfl (Nat.le_of_ble_eq_true rfl) s37v rfl h39 (iR_l z38r) (fun s40 s40e s40v => ?_)
          have hW := hW s40 s40e
          refine ir_goto (pc' := 146) rfl rfl ?_
          refine ir_w [(0, (2, ((582 : Nat) : Int)))] ⟨rfl, trivial⟩ ?_
          exact J146 s40 s40v hW
      · have hW := hW.2 c6
        obtain ⟨h42, h44, hW⟩ := hW
        have h43 : iR ((9 * (wgf s 21)) + l2) := ⟨by omega, by omega⟩
        refine ir_l (pc' := 9) rfl rfl rfl rfl rfl rfl ?_
        refine ir_vgr (pc' := 12) (c := 591) rfl rfl rfl rfl rfl hv ?_
        refine ir_k (pc' := 14) (v := (0, 9)) rfl rfl rfl (fun _ => rfl) ?_
        refine ir_l (pc' := 15) rfl rfl rfl rfl rfl rfl ?_
        refine ir_vgi (pc' := 18) rfl rfl rfl rfl rfl hv (fun r41 => ?_)
        refine ir_mul (pc' := 19) rfl rfl h42.1 h42.2 ?_
        refine ir_l (pc' := 20) rfl rfl rfl rfl rfl rfl ?_
        refine ir_add (pc' := 21) rfl rfl h43.1 h43.2 ?_
        refine ir_k (pc' := 22) (v := (1, 0)) rfl rfl rfl (fun _ => rfl) ?_
        refine ir_vls (pc' := 23) rfl rfl vg_591 rfl (Nat.le_of_ble_eq_true rfl) hv rfl h44 (⟨by decide, by decide⟩ : lR 0) (fun s45 s45e s45v => ?_)
        have hW := hW s45 s45e
        obtain ⟨h46, hW⟩ := hW
        refine ir_inc (pc' := 26) rfl rfl rfl rfl rfl h46.1 h46.2 ?_
        refine ir_goto (pc' := 2) rfl rfl ?_
        refine ir_w [(0, (2, ((582 : Nat) : Int))), (1, (0, l1)), (2, (0, (l2 + 1)))] ⟨rfl, rfl, rfl, trivial⟩ ?_
        exact ih2 (l2 + 1) h46 s45 s45v hW.1 (Nat.lt_of_lt_of_le hW.2 (Nat.le_of_lt_succ hr2))
  unfold W_takeBase at hW
  refine ir_k (pc' := 1) (v := (0, 0)) rfl rfl rfl (fun _ => rfl) ?_
  refine ir_s (pc' := 2) rfl rfl rfl rfl rfl rfl ?_
  refine ir_w [(0, (2, ((582 : Nat) : Int))), (1, (0, l1)), (2, (0, 0))] ⟨rfl, rfl, rfl, trivial⟩ ?_
  obtain ⟨I9, r9, hI9, hB9⟩ := hW
  exact J2 l1 l1r I9 r9 hB9 _ 0 (zR_i (Or.inl rfl)) s hv hI9 (Nat.lt_succ_self _)
