/-! THE REFERENCE LIFTED, by program -/
def W_whole_22 (K22 : Int × Int × im_S → Prop) (l1 : Int) (l3 : Int) (l4 : Int) (l6 : Int) (s : im_S) (Q : Int → im_S → Prop) : Prop := ((l4 ≤ 0 → ((¬ (0 ≤ l1) → iR (-l6)) ∧ (∀ v204 : Int, v204 = (if 0 ≤ l1 then l6 else (-l6)) → ((0 ≤ l3 ∧ l3 < 700000) ∧ (∀ s207, s207 = wpa s 597 l3 v204 → ((iR (l3 + l6)) ∧ (iR ((l3 + l6) + 1)) ∧ (∀ s210, s210 = wpf s207 24 ((l3 + l6) + 1) → (Q l3 s210)))))))) ∧ (¬ (l4 ≤ 0) → ((iR (l6 + 1)) ∧ (iR (l4.tmod 1000000000)) ∧ (0 ≤ (l3 + (l6 + 1)) ∧ (l3 + (l6 + 1)) < 700000) ∧ (∀ s215, s215 = wpa s 597 (l3 + (l6 + 1)) (l4.tmod 1000000000) → (K22 ((l4.tdiv 1000000000), (l6 + 1), s215))))))
def W_whole (l1 : Int) (s : im_S) (Q : Int → im_S → Prop) : Prop := ((¬ (0 ≤ l1) → lR (-l1)) ∧ (∀ v418 : Int, v418 = (if 0 ≤ l1 then l1 else (-l1)) → (wloop (fun (K : Int × Int × im_S → Prop) (a : Int × Int × im_S) => W_whole_22 K l1 (wgf s 24) a.1 a.2.1 a.2.2 Q) (v418, 0, s))))
set_option maxRecDepth 16384 in
theorem w_whole (L : Nat) (ys : Nat → Int32) (d : Nat) (s : im_S) (hv : vI s) (l1 : Int) (l1r : lR l1) (Q : Int → im_S → Prop) (hW : W_whole l1 s Q) : icI gG rm_P L ys 0 (d + 1) 107 [(2, ((582 : Nat) : Int)), (1, l1)] s (fun z9 s9 => vI s9 ∧ iR z9 ∧ Q z9 s9) := by
  refine ic_startM (M := rm_p_X10_whole) om_X10_whole (Nat.le_of_ble_eq_true rfl) ?_
  refine ir_w [(0, (2, ((582 : Nat) : Int))), (1, (1, l1))] ⟨rfl, rfl, trivial⟩ ?_
  have J22 : ∀ (l1 : Int) (l1r : lR l1) (l3 : Int) (l3r : iR l3) (I22 : Int × Int × im_S → Prop) (r22 : Int × Int × im_S → Nat) (hB22 : ∀ a : Int × Int × im_S, I22 a → W_whole_22 (fun b => I22 b ∧ r22 b < r22 a) l1 l3 a.1 a.2.1 a.2.2 Q), ∀ n22 : Nat, ∀ (l4 : Int) (l4r : lR l4) (l6 : Int) (l6r : iR l6) (s : im_S) (hv : vI s), I22 (l4, l6, s) → r22 (l4, l6, s) < n22 → ir gG rm_P L ys d rm_p_X10_whole (22, [(0, (2, ((582 : Nat) : Int))), (1, (1, l1)), (3, (0, l3)), (4, (1, l4)), (6, (0, l6))], [], s) (fun r : im_Re => ∃ z, r.1 = some (0, z) ∧ (vI r.2 ∧ iR z ∧ Q z r.2)) := by
    intro l1 l1r l3 l3r I22 r22 hB22 n22
    induction n22 with
    | zero => intro l4 l4r l6 l6r s hv hI hr; exact absurd hr (Nat.not_lt_zero _)
    | succ n22 ih22 =>
      intro l4 l4r l6 l6r s hv hI hr22
      obtain ⟨t22, ht22⟩ : ∃ t22 : Int × Int × im_S, t22 = (l4, l6, s) := ⟨_, rfl⟩
      rw [← ht22] at hr22
      have hW : W_whole_22 (fun b => I22 b ∧ r22 b < r22 t22) l1 l3 l4 l6 s Q := by have z := hB22 (l4, l6, s) hI; rw [ht22]; exact z
      unfold W_whole_22 at hW
      refine ir_l (pc' := 24) rfl rfl rfl rfl rfl rfl ?_
      refine ir_k (pc' := 25) (v := (1, 0)) rfl rfl rfl (fun _ => rfl) ?_
      refine ir_lcmp (pc' := 26) rfl rfl l4r.1 l4r.2 (⟨by decide, by decide⟩ : lR 0).1 (⟨by decide, by decide⟩ : lR 0).2 (fun z1 z1c => ?_)
      refine ir_z_le (pt := 59) (pc' := 29) rfl rfl rfl (fun c2 => ?_) (fun c2 => ?_)
      · have c2 : l4 ≤ 0 := by omega
        have hW := hW.1 c2
        obtain ⟨h5, hW⟩ := hW
        refine ir_l (pc' := 60) rfl rfl rfl rfl rfl rfl ?_
        refine ir_vgr (pc' := 63) (c := 597) rfl rfl rfl rfl rfl hv ?_
        refine ir_l (pc' := 64) rfl rfl rfl rfl rfl rfl ?_
        refine ir_l (pc' := 65) rfl rfl rfl rfl rfl rfl ?_
        refine ir_k (pc' := 66) (v := (1, 0)) rfl rfl rfl (fun _ => rfl) ?_
        refine ir_lcmp (pc' := 67) rfl rfl l1r.1 l1r.2 (⟨by decide, by decide⟩ : lR 0).1 (⟨by decide, by decide⟩ : lR 0).2 (fun z3 z3c => ?_)
        have J205 : ∀ v204 : Int, iR v204 → (((0 ≤ l3 ∧ l3 < 700000) ∧ (∀ s207, s207 = wpa s 597 l3 v204 → ((iR (l3 + l6)) ∧ (iR ((l3 + l6) + 1)) ∧ (∀ s210, s210 = wpf s207 24 ((l3 + l6) + 1) → (Q l3 s210)))))) → ir gG rm_P L ys d rm_p_X10_whole (78, [(0, (2, ((582 : Nat) : Int))), (3, (0, l3)), (6, (0, l6))], [(0, v204), (0, l3), (2, ((597 : Nat) : Int))], s) (fun r : im_Re => ∃ z, r.1 = some (0, z) ∧ (vI r.2 ∧ iR z ∧ Q z r.2)) := by
          intro v204 v204r hW
          obtain ⟨h206, hW⟩ := hW
          refine ir_vis (pc' := 79) rfl rfl vg_597 rfl (Nat.le_of_ble_eq_true rfl) hv rfl h206 v204r (fun s207 s207e s207v => ?_)
          have hW := hW s207 s207e
          obtain ⟨h208, h209, hW⟩ := hW
          refine ir_l (pc' := 80) rfl rfl rfl rfl rfl rfl ?_
          refine ir_l (pc' := 81) rfl rfl rfl rfl rfl rfl ?_
          refine ir_l (pc' := 83) rfl rfl rfl rfl rfl rfl ?_
          refine ir_add (pc' := 84) rfl rfl h208.1 h208.2 ?_
          refine ir_k (pc' := 85) (v := (0, 1)) rfl rfl rfl (fun _ => rfl) ?_
          refine ir_add (pc' := 86) rfl rfl h209.1 h209.2 ?_
          refine ir_vpi (pc' := 89) rfl rfl rfl rfl rfl rfl rfl s207v h209 (fun s210 s210e s210v => ?_)
          have hW := hW s210 s210e
          refine ir_l (pc' := 90) rfl rfl rfl rfl rfl rfl ?_
          exact ir_iret rfl rfl ⟨_, rfl, s210v, l3r, hW⟩
        refine ir_z_ge (pt := 76) (pc' := 70) rfl rfl rfl (fun c4 => ?_) (fun c4 => ?_)
        · have c4 : 0 ≤ l1 := by omega
          refine ir_l (pc' := 78) rfl rfl rfl rfl rfl rfl ?_
          refine ir_w [(0, (2, ((582 : Nat) : Int))), (3, (0, l3)), (6, (0, l6))] ⟨rfl, rfl, rfl, trivial⟩ ?_
          exact J205 l6 l6r (hW _ (by rw [if_pos c4]))
        · have c4 : ¬ (0 ≤ l1) := by omega
          refine ir_l (pc' := 72) rfl rfl rfl rfl rfl rfl ?_
          refine ir_ineg (pc' := 73) rfl rfl (w_ng0 (h5 c4)) l6r.2 ?_
          refine ir_goto (pc' := 78) rfl rfl ?_
          refine ir_w [(0, (2, ((582 : Nat) : Int))), (3, (0, l3)), (6, (0, l6))] ⟨rfl, rfl, rfl, trivial⟩ ?_
          exact J205 (-l6) (h5 c4) (hW _ (by rw [if_neg (fun z => c4 z)]))
      · have c2 : ¬ (l4 ≤ 0) := by omega
        have hW := hW.2 c2
        obtain ⟨h211, h213, h214, hW⟩ := hW
        have h212 : iR (l3 + (l6 + 1)) := ⟨by omega, by omega⟩
        refine ir_inc (pc' := 32) rfl rfl rfl rfl rfl h211.1 h211.2 ?_
        refine ir_l (pc' := 33) rfl rfl rfl rfl rfl rfl ?_
        refine ir_vgr (pc' := 36) (c := 597) rfl rfl rfl rfl rfl hv ?_
        refine ir_l (pc' := 37) rfl rfl rfl rfl rfl rfl ?_
        refine ir_l (pc' := 39) rfl rfl rfl rfl rfl rfl ?_
        refine ir_add (pc' := 40) rfl rfl h212.1 h212.2 ?_
        refine ir_l (pc' := 42) rfl rfl rfl rfl rfl rfl ?_
        refine ir_k (pc' := 45) (v := (1, 1000000000)) rfl rfl rfl (fun _ => rfl) ?_
        refine ir_lrem (pc' := 46) rfl rfl l4r.1 l4r.2 (by decide) (⟨by decide, by decide⟩ : lR 1000000000).2 ?_
        refine ir_l2i (pc' := 47) rfl rfl h213.1 h213.2 ?_
        refine ir_vis (pc' := 48) rfl rfl vg_597 rfl (Nat.le_of_ble_eq_true rfl) hv rfl h214 h213 (fun s215 s215e s215v => ?_)
        have hW := hW s215 s215e
        refine ir_l (pc' := 50) rfl rfl rfl rfl rfl rfl ?_
        refine ir_k (pc' := 53) (v := (1, 1000000000)) rfl rfl rfl (fun _ => rfl) ?_
        refine ir_ldiv (pc' := 54) rfl rfl l4r.1 l4r.2 (by decide) (⟨by decide, by decide⟩ : lR 1000000000).2 ?_
        refine ir_s2 (pc' := 56) rfl rfl rfl rfl rfl rfl ?_
        refine ir_goto (pc' := 22) rfl rfl ?_
        refine ir_w [(0, (2, ((582 : Nat) : Int))), (1, (1, l1)), (3, (0, l3)), (4, (1, (l4.tdiv 1000000000))), (6, (0, (l6 + 1)))] ⟨rfl, rfl, rfl, rfl, rfl, trivial⟩ ?_
        exact ih22 (l4.tdiv 1000000000) (w_tdiv1 l4r (by decide) (⟨by decide, by decide⟩ : lR 1000000000)) (l6 + 1) h211 s215 s215v hW.1 (Nat.lt_of_lt_of_le hW.2 (Nat.le_of_lt_succ hr22))
  unfold W_whole at hW
  obtain ⟨h219, hW⟩ := hW
  refine ir_l (pc' := 1) rfl rfl rfl rfl rfl rfl ?_
  refine ir_vgi (pc' := 4) rfl rfl rfl rfl rfl hv (fun r216 => ?_)
  refine ir_s (pc' := 5) rfl rfl rfl rfl rfl rfl ?_
  refine ir_l (pc' := 6) rfl rfl rfl rfl rfl rfl ?_
  refine ir_k (pc' := 7) (v := (1, 0)) rfl rfl rfl (fun _ => rfl) ?_
  refine ir_lcmp (pc' := 8) rfl rfl l1r.1 l1r.2 (⟨by decide, by decide⟩ : lR 0).1 (⟨by decide, by decide⟩ : lR 0).2 (fun z217 z217c => ?_)
  have J419 : ∀ v418 : Int, lR v418 → ((wloop (fun (K : Int × Int × im_S → Prop) (a : Int × Int × im_S) => W_whole_22 K l1 (wgf s 24) a.1 a.2.1 a.2.2 Q) (v418, 0, s))) → ir gG rm_P L ys d rm_p_X10_whole (17, [(0, (2, ((582 : Nat) : Int))), (1, (1, l1)), (3, (0, (wgf s 24)))], [(1, v418)], s) (fun r : im_Re => ∃ z, r.1 = some (0, z) ∧ (vI r.2 ∧ iR z ∧ Q z r.2)) := by
    intro v418 v418r hW
    refine ir_s2 (pc' := 19) rfl rfl rfl rfl rfl rfl ?_
    refine ir_k (pc' := 20) (v := (0, 0)) rfl rfl rfl (fun _ => rfl) ?_
    refine ir_s (pc' := 22) rfl rfl rfl rfl rfl rfl ?_
    refine ir_w [(0, (2, ((582 : Nat) : Int))), (1, (1, l1)), (3, (0, (wgf s 24))), (4, (1, v418)), (6, (0, 0))] ⟨rfl, rfl, rfl, rfl, rfl, trivial⟩ ?_
    obtain ⟨I9, r9, hI9, hB9⟩ := hW
    exact J22 l1 l1r (wgf s 24) r216 I9 r9 hB9 _ v418 v418r 0 (zR_i (Or.inl rfl)) s hv hI9 (Nat.lt_succ_self _)
  refine ir_z_ge (pt := 16) (pc' := 11) rfl rfl rfl (fun c218 => ?_) (fun c218 => ?_)
  · have c218 : 0 ≤ l1 := by omega
    refine ir_l (pc' := 17) rfl rfl rfl rfl rfl rfl ?_
    refine ir_w [(0, (2, ((582 : Nat) : Int))), (1, (1, l1)), (3, (0, (wgf s 24)))] ⟨rfl, rfl, rfl, trivial⟩ ?_
    exact J419 l1 l1r (hW _ (by rw [if_pos c218]))
  · have c218 : ¬ (0 ≤ l1) := by omega
    refine ir_l (pc' := 12) rfl rfl rfl rfl rfl rfl ?_
    refine ir_lneg (pc' := 13) rfl rfl (w_ng1 (h219 c218)) l1r.2 ?_
    refine ir_goto (pc' := 17) rfl rfl ?_
    refine ir_w [(0, (2, ((582 : Nat) : Int))), (1, (1, l1)), (3, (0, (wgf s 24)))] ⟨rfl, rfl, rfl, trivial⟩ ?_
    exact J419 (-l1) (h219 c218) (hW _ (by rw [if_neg (fun z => c218 z)]))
def W_sgn (l1 : Int) (s : im_S) (Q : Int → im_S → Prop) : Prop := ((0 ≤ l1 ∧ l1 < 700000) ∧ (∀ v203 : Int, v203 = (if (wga s 597 l1) ≤ 0 then (if 0 ≤ (wga s 597 l1) then 0 else (-1)) else 1) → (Q v203 s)))
set_option maxRecDepth 16384 in
theorem w_sgn (L : Nat) (ys : Nat → Int32) (d : Nat) (s : im_S) (hv : vI s) (l1 : Int) (l1r : iR l1) (Q : Int → im_S → Prop) (hW : W_sgn l1 s Q) : icI gG rm_P L ys 0 (d + 1) 92 [(2, ((582 : Nat) : Int)), (0, l1)] s (fun z9 s9 => vI s9 ∧ iR z9 ∧ Q z9 s9) := by
  refine ic_startM (M := rm_p_X10_sgn) om_X10_sgn (Nat.le_of_ble_eq_true rfl) ?_
  refine ir_w [(0, (2, ((582 : Nat) : Int))), (1, (0, l1))] ⟨rfl, rfl, trivial⟩ ?_
  unfold W_sgn at hW
  obtain ⟨h1, hW⟩ := hW
  refine ir_l (pc' := 1) rfl rfl rfl rfl rfl rfl ?_
  refine ir_vgr (pc' := 4) (c := 597) rfl rfl rfl rfl rfl hv ?_
  refine ir_l (pc' := 5) rfl rfl rfl rfl rfl rfl ?_
  refine ir_via (pc' := 6) rfl rfl vg_597 rfl (Nat.le_of_ble_eq_true rfl) hv rfl h1 (fun r2 => ?_)
  have J204 : ∀ v203 : Int, iR v203 → ((Q v203 s)) → ir gG rm_P L ys d rm_p_X10_sgn (27, [], [(0, v203)], s) (fun r : im_Re => ∃ z, r.1 = some (0, z) ∧ (vI r.2 ∧ iR z ∧ Q z r.2)) := by
    intro v203 v203r hW
    exact ir_iret rfl rfl ⟨_, rfl, hv, v203r, hW⟩
  refine ir_z_le (pt := 13) (pc' := 9) rfl rfl rfl (fun c3 => ?_) (fun c3 => ?_)
  · refine ir_l (pc' := 14) rfl rfl rfl rfl rfl rfl ?_
    refine ir_vgr (pc' := 17) (c := 597) rfl rfl rfl rfl rfl hv ?_
    refine ir_l (pc' := 18) rfl rfl rfl rfl rfl rfl ?_
    refine ir_via (pc' := 19) rfl rfl vg_597 rfl (Nat.le_of_ble_eq_true rfl) hv rfl h1 (fun r4 => ?_)
    refine ir_z_ge (pt := 26) (pc' := 22) rfl rfl rfl (fun c5 => ?_) (fun c5 => ?_)
    · refine ir_k (pc' := 27) (v := (0, 0)) rfl rfl rfl (fun _ => rfl) ?_
      refine ir_w [] trivial ?_
      exact J204 0 (zR_i (Or.inl rfl)) (hW _ (by rw [if_pos c3, if_pos c5]))
    · refine ir_k (pc' := 23) (v := (0, (-1))) rfl rfl rfl (fun _ => rfl) ?_
      refine ir_goto (pc' := 27) rfl rfl ?_
      refine ir_w [] trivial ?_
      exact J204 (-1) (⟨by decide, by decide⟩ : iR (-1)) (hW _ (by rw [if_pos c3, if_neg (fun z => c5 z)]))
  · refine ir_k (pc' := 10) (v := (0, 1)) rfl rfl rfl (fun _ => rfl) ?_
    refine ir_goto (pc' := 27) rfl rfl ?_
    refine ir_w [] trivial ?_
    exact J204 1 (zR_i (Or.inr rfl)) (hW _ (by rw [if_neg (fun z => c3 z)]))
def W_limbs (l1 : Int) (s : im_S) (Q : Int → im_S → Prop) : Prop := ((0 ≤ l1 ∧ l1 < 700000) ∧ (¬ (0 ≤ (wga s 597 l1)) → iR (-(wga s 597 l1))) ∧ (∀ v203 : Int, v203 = (if 0 ≤ (wga s 597 l1) then (wga s 597 l1) else (-(wga s 597 l1))) → (Q v203 s)))
set_option maxRecDepth 16384 in
theorem w_limbs (L : Nat) (ys : Nat → Int32) (d : Nat) (s : im_S) (hv : vI s) (l1 : Int) (l1r : iR l1) (Q : Int → im_S → Prop) (hW : W_limbs l1 s Q) : icI gG rm_P L ys 0 (d + 1) 64 [(2, ((582 : Nat) : Int)), (0, l1)] s (fun z9 s9 => vI s9 ∧ iR z9 ∧ Q z9 s9) := by
  refine ic_startM (M := rm_p_X10_limbs) om_X10_limbs (Nat.le_of_ble_eq_true rfl) ?_
  refine ir_w [(0, (2, ((582 : Nat) : Int))), (1, (0, l1))] ⟨rfl, rfl, trivial⟩ ?_
  unfold W_limbs at hW
  obtain ⟨h1, h6, hW⟩ := hW
  refine ir_l (pc' := 1) rfl rfl rfl rfl rfl rfl ?_
  refine ir_vgr (pc' := 4) (c := 597) rfl rfl rfl rfl rfl hv ?_
  refine ir_l (pc' := 5) rfl rfl rfl rfl rfl rfl ?_
  refine ir_via (pc' := 6) rfl rfl vg_597 rfl (Nat.le_of_ble_eq_true rfl) hv rfl h1 (fun r2 => ?_)
  have J204 : ∀ v203 : Int, iR v203 → ((Q v203 s)) → ir gG rm_P L ys d rm_p_X10_limbs (25, [], [(0, v203)], s) (fun r : im_Re => ∃ z, r.1 = some (0, z) ∧ (vI r.2 ∧ iR z ∧ Q z r.2)) := by
    intro v203 v203r hW
    exact ir_iret rfl rfl ⟨_, rfl, hv, v203r, hW⟩
  refine ir_z_ge (pt := 19) (pc' := 9) rfl rfl rfl (fun c3 => ?_) (fun c3 => ?_)
  · refine ir_l (pc' := 20) rfl rfl rfl rfl rfl rfl ?_
    refine ir_vgr (pc' := 23) (c := 597) rfl rfl rfl rfl rfl hv ?_
    refine ir_l (pc' := 24) rfl rfl rfl rfl rfl rfl ?_
    refine ir_via (pc' := 25) rfl rfl vg_597 rfl (Nat.le_of_ble_eq_true rfl) hv rfl h1 (fun r4 => ?_)
    refine ir_w [] trivial ?_
    exact J204 (wga s 597 l1) r4 (hW _ (by rw [if_pos c3]))
  · refine ir_l (pc' := 10) rfl rfl rfl rfl rfl rfl ?_
    refine ir_vgr (pc' := 13) (c := 597) rfl rfl rfl rfl rfl hv ?_
    refine ir_l (pc' := 14) rfl rfl rfl rfl rfl rfl ?_
    refine ir_via (pc' := 15) rfl rfl vg_597 rfl (Nat.le_of_ble_eq_true rfl) hv rfl h1 (fun r5 => ?_)
    refine ir_ineg (pc' := 16) rfl rfl (w_ng0 (h6 c3)) r5.2 ?_
    refine ir_goto (pc' := 25) rfl rfl ?_
    refine ir_w [] trivial ?_
    exact J204 (-(wga s 597 l1)) (h6 c3) (hW _ (by rw [if_neg (fun z => c3 z)]))
def W_by_199 (l1 : Int) (l2 : Int) (l3 : Int) (l6 : Int) (s : im_S) (Q : Int → im_S → Prop) : Prop := (W_sgn l1 s (fun z2 s1 => (W_sgn l2 s1 (fun z4 s3 => ((iR (z2 * z4)) ∧ (¬ (0 ≤ (z2 * z4)) → iR (-l6)) ∧ (∀ v206 : Int, v206 = (if 0 ≤ (z2 * z4) then l6 else (-l6)) → ((0 ≤ l3 ∧ l3 < 700000) ∧ (∀ s209, s209 = wpa s3 597 l3 v206 → ((iR (l3 + l6)) ∧ (iR ((l3 + l6) + 1)) ∧ (∀ s212, s212 = wpf s209 24 ((l3 + l6) + 1) → (Q l3 s212)))))))))))
def W_by_176 (K176 : Int × im_S → Prop) (l1 : Int) (l2 : Int) (l3 : Int) (l6 : Int) (s : im_S) (Q : Int → im_S → Prop) : Prop := ((l6 ≤ 0 → (W_by_199 l1 l2 l3 l6 s Q)) ∧ (¬ (l6 ≤ 0) → ((0 ≤ (l3 + l6) ∧ (l3 + l6) < 700000) ∧ ((¬ ((wga s 597 (l3 + l6)) = 0) → (W_by_199 l1 l2 l3 l6 s Q)) ∧ ((wga s 597 (l3 + l6)) = 0 → ((iR (l6 + (-1))) ∧ (K176 ((l6 + (-1)), s))))))))
def W_by_64 (K51 : Int × im_S → Prop) (K64 : Int × Int × im_S → Prop) (l1 : Int) (l2 : Int) (l3 : Int) (l4 : Int) (l5 : Int) (l6 : Int) (l7 : Int) (l9 : Int) (s : im_S) (Q : Int → im_S → Prop) : Prop := ((l5 < l9 → ((iR (l3 + l6)) ∧ (iR l7) ∧ (0 ≤ ((l3 + l6) + l5) ∧ ((l3 + l6) + l5) < 700000) ∧ (∀ s224, s224 = wpa s 597 ((l3 + l6) + l5) l7 → ((iR (l6 + 1)) ∧ (K51 ((l6 + 1), s224)))))) ∧ (¬ (l5 < l9) → ((0 ≤ (l1 + l6) ∧ (l1 + l6) < 700000) ∧ (0 ≤ (l2 + l9) ∧ (l2 + l9) < 700000) ∧ (lR ((wga s 597 (l1 + l6)) * (wga s 597 (l2 + l9)))) ∧ (iR (l3 + l6)) ∧ (iR ((l3 + l6) + l9)) ∧ (0 ≤ (((l3 + l6) + l9) - 1) ∧ (((l3 + l6) + l9) - 1) < 700000) ∧ (lR (((wga s 597 (l1 + l6)) * (wga s 597 (l2 + l9))) + (wga s 597 (((l3 + l6) + l9) - 1)))) ∧ (lR ((((wga s 597 (l1 + l6)) * (wga s 597 (l2 + l9))) + (wga s 597 (((l3 + l6) + l9) - 1))) + l7)) ∧ (iR (((((wga s 597 (l1 + l6)) * (wga s 597 (l2 + l9))) + (wga s 597 (((l3 + l6) + l9) - 1))) + l7).tmod 1000000000)) ∧ (0 ≤ (((l3 + l6) + l9) - 1) ∧ (((l3 + l6) + l9) - 1) < 700000) ∧ (∀ s242, s242 = wpa s 597 (((l3 + l6) + l9) - 1) (((((wga s 597 (l1 + l6)) * (wga s 597 (l2 + l9))) + (wga s 597 (((l3 + l6) + l9) - 1))) + l7).tmod 1000000000) → ((iR (l9 + 1)) ∧ (K64 ((((((wga s 597 (l1 + l6)) * (wga s 597 (l2 + l9))) + (wga s 597 (((l3 + l6) + l9) - 1))) + l7).tdiv 1000000000), (l9 + 1), s242)))))))
def W_by_51 (K51 : Int × im_S → Prop) (l1 : Int) (l2 : Int) (l3 : Int) (l4 : Int) (l5 : Int) (l6 : Int) (s : im_S) (Q : Int → im_S → Prop) : Prop := ((l4 < l6 → ((iR (l4 + l5)) ∧ (wloop (fun (K : Int × im_S → Prop) (a : Int × im_S) => W_by_176 K l1 l2 l3 a.1 a.2 Q) ((l4 + l5), s)))) ∧ (¬ (l4 < l6) → (wloop (fun (K : Int × Int × im_S → Prop) (a : Int × Int × im_S) => W_by_64 K51 K l1 l2 l3 l4 l5 l6 a.1 a.2.1 a.2.2 Q) (0, 1, s))))
def W_by_22 (K22 : Int × im_S → Prop) (l1 : Int) (l2 : Int) (l3 : Int) (l4 : Int) (l5 : Int) (l6 : Int) (s : im_S) (Q : Int → im_S → Prop) : Prop := ((iR (l4 + l5)) ∧ (((l4 + l5) < l6 → (wloop (fun (K : Int × im_S → Prop) (a : Int × im_S) => W_by_51 K l1 l2 l3 l4 l5 a.1 a.2 Q) (1, s))) ∧ (¬ ((l4 + l5) < l6) → ((0 ≤ (l3 + l6) ∧ (l3 + l6) < 700000) ∧ (∀ s250, s250 = wpa s 597 (l3 + l6) 0 → ((iR (l6 + 1)) ∧ (K22 ((l6 + 1), s250))))))))
def W_by (l1 : Int) (l2 : Int) (s : im_S) (Q : Int → im_S → Prop) : Prop := (W_limbs l1 s (fun z254 s253 => (W_limbs l2 s253 (fun z256 s255 => (wloop (fun (K : Int × im_S → Prop) (a : Int × im_S) => W_by_22 K l1 l2 (wgf s 24) z254 z256 a.1 a.2 Q) (0, s255))))))
set_option maxRecDepth 16384 in
theorem w_by (L : Nat) (ys : Nat → Int32) (d : Nat) (s : im_S) (hv : vI s) (l1 : Int) (l1r : iR l1) (l2 : Int) (l2r : iR l2) (Q : Int → im_S → Prop) (hW : W_by l1 l2 s Q) : icI gG rm_P L ys 0 (d + 2) 13 [(2, ((582 : Nat) : Int)), (0, l1), (0, l2)] s (fun z9 s9 => vI s9 ∧ iR z9 ∧ Q z9 s9) := by
  refine ic_startM (M := rm_p_X10_by) om_X10_by (Nat.le_of_ble_eq_true rfl) ?_
  refine ir_w [(0, (2, ((582 : Nat) : Int))), (1, (0, l1)), (2, (0, l2))] ⟨rfl, rfl, rfl, trivial⟩ ?_
  have J199 : ∀ (l1 : Int) (l1r : iR l1) (l2 : Int) (l2r : iR l2) (l3 : Int) (l3r : iR l3) (l6 : Int) (l6r : iR l6) (s : im_S) (hv : vI s), W_by_199 l1 l2 l3 l6 s Q → ir gG rm_P L ys (d + 1) rm_p_X10_by (199, [(0, (2, ((582 : Nat) : Int))), (1, (0, l1)), (2, (0, l2)), (3, (0, l3)), (6, (0, l6))], [], s) (fun r : im_Re => ∃ z, r.1 = some (0, z) ∧ (vI r.2 ∧ iR z ∧ Q z r.2)) := by
    intro l1 l1r l2 l2r l3 l3r l6 l6r s hv hW
    unfold W_by_199 at hW
    refine ir_l (pc' := 200) rfl rfl rfl rfl rfl rfl ?_
    refine ir_vgr (pc' := 203) (c := 597) rfl rfl rfl rfl rfl hv ?_
    refine ir_l (pc' := 204) rfl rfl rfl rfl rfl rfl ?_
    refine ir_l (pc' := 205) rfl rfl rfl rfl rfl rfl ?_
    refine ir_l (pc' := 206) rfl rfl rfl rfl rfl rfl ?_
    refine ir_cVI (pc' := 209) rfl rfl rfl rfl rfl (Nat.le_of_ble_eq_true rfl) oo_X10_sgn vg_582 (w_sgn L ys d s hv l1 l1r _ hW) (fun z2 s1 hr => ?_)
    obtain ⟨s1v, z2r, hW⟩ := hr
    refine ir_l (pc' := 210) rfl rfl rfl rfl rfl rfl ?_
    refine ir_l (pc' := 211) rfl rfl rfl rfl rfl rfl ?_
    refine ir_cVI (pc' := 214) rfl rfl rfl rfl rfl (Nat.le_of_ble_eq_true rfl) oo_X10_sgn vg_582 (w_sgn L ys d s1 s1v l2 l2r _ hW) (fun z4 s3 hr => ?_)
    obtain ⟨s3v, z4r, hW⟩ := hr
    obtain ⟨h5, h7, hW⟩ := hW
    refine ir_mul (pc' := 215) rfl rfl h5.1 h5.2 ?_
    have J207 : ∀ v206 : Int, iR v206 → (((0 ≤ l3 ∧ l3 < 700000) ∧ (∀ s209, s209 = wpa s3 597 l3 v206 → ((iR (l3 + l6)) ∧ (iR ((l3 + l6) + 1)) ∧ (∀ s212, s212 = wpf s209 24 ((l3 + l6) + 1) → (Q l3 s212)))))) → ir gG rm_P L ys (d + 1) rm_p_X10_by (226, [(0, (2, ((582 : Nat) : Int))), (3, (0, l3)), (6, (0, l6))], [(0, v206), (0, l3), (2, ((597 : Nat) : Int))], s3) (fun r : im_Re => ∃ z, r.1 = some (0, z) ∧ (vI r.2 ∧ iR z ∧ Q z r.2)) := by
      intro v206 v206r hW
      obtain ⟨h208, hW⟩ := hW
      refine ir_vis (pc' := 227) rfl rfl vg_597 rfl (Nat.le_of_ble_eq_true rfl) s3v rfl h208 v206r (fun s209 s209e s209v => ?_)
      have hW := hW s209 s209e
      obtain ⟨h210, h211, hW⟩ := hW
      refine ir_l (pc' := 228) rfl rfl rfl rfl rfl rfl ?_
      refine ir_l (pc' := 229) rfl rfl rfl rfl rfl rfl ?_
      refine ir_l (pc' := 231) rfl rfl rfl rfl rfl rfl ?_
      refine ir_add (pc' := 232) rfl rfl h210.1 h210.2 ?_
      refine ir_k (pc' := 233) (v := (0, 1)) rfl rfl rfl (fun _ => rfl) ?_
      refine ir_add (pc' := 234) rfl rfl h211.1 h211.2 ?_
      refine ir_vpi (pc' := 237) rfl rfl rfl rfl rfl rfl rfl s209v h211 (fun s212 s212e s212v => ?_)
      have hW := hW s212 s212e
      refine ir_l (pc' := 238) rfl rfl rfl rfl rfl rfl ?_
      exact ir_iret rfl rfl ⟨_, rfl, s212v, l3r, hW⟩
    refine ir_z_ge (pt := 224) (pc' := 218) rfl rfl rfl (fun c6 => ?_) (fun c6 => ?_)
    · refine ir_l (pc' := 226) rfl rfl rfl rfl rfl rfl ?_
      refine ir_w [(0, (2, ((582 : Nat) : Int))), (3, (0, l3)), (6, (0, l6))] ⟨rfl, rfl, rfl, trivial⟩ ?_
      exact J207 l6 l6r (hW _ (by rw [if_pos c6]))
    · refine ir_l (pc' := 220) rfl rfl rfl rfl rfl rfl ?_
      refine ir_ineg (pc' := 221) rfl rfl (w_ng0 (h7 c6)) l6r.2 ?_
      refine ir_goto (pc' := 226) rfl rfl ?_
      refine ir_w [(0, (2, ((582 : Nat) : Int))), (3, (0, l3)), (6, (0, l6))] ⟨rfl, rfl, rfl, trivial⟩ ?_
      exact J207 (-l6) (h7 c6) (hW _ (by rw [if_neg (fun z => c6 z)]))
  have J176 : ∀ (l1 : Int) (l1r : iR l1) (l2 : Int) (l2r : iR l2) (l3 : Int) (l3r : iR l3) (I176 : Int × im_S → Prop) (r176 : Int × im_S → Nat) (hB176 : ∀ a : Int × im_S, I176 a → W_by_176 (fun b => I176 b ∧ r176 b < r176 a) l1 l2 l3 a.1 a.2 Q), ∀ n176 : Nat, ∀ (l6 : Int) (l6r : iR l6) (s : im_S) (hv : vI s), I176 (l6, s) → r176 (l6, s) < n176 → ir gG rm_P L ys (d + 1) rm_p_X10_by (176, [(0, (2, ((582 : Nat) : Int))), (1, (0, l1)), (2, (0, l2)), (3, (0, l3)), (6, (0, l6))], [], s) (fun r : im_Re => ∃ z, r.1 = some (0, z) ∧ (vI r.2 ∧ iR z ∧ Q z r.2)) := by
    intro l1 l1r l2 l2r l3 l3r I176 r176 hB176 n176
    induction n176 with
    | zero => intro l6 l6r s hv hI hr; exact absurd hr (Nat.not_lt_zero _)
    | succ n176 ih176 =>
      intro l6 l6r s hv hI hr176
      obtain ⟨t176, ht176⟩ : ∃ t176 : Int × im_S, t176 = (l6, s) := ⟨_, rfl⟩
      rw [← ht176] at hr176
      have hW : W_by_176 (fun b => I176 b ∧ r176 b < r176 t176) l1 l2 l3 l6 s Q := by have z := hB176 (l6, s) hI; rw [ht176]; exact z
      unfold W_by_176 at hW
      refine ir_l (pc' := 178) rfl rfl rfl rfl rfl rfl ?_
      refine ir_z_le (pt := 199) (pc' := 181) rfl rfl rfl (fun c213 => ?_) (fun c213 => ?_)
      · have hW := hW.1 c213
        refine ir_w [(0, (2, ((582 : Nat) : Int))), (1, (0, l1)), (2, (0, l2)), (3, (0, l3)), (6, (0, l6))] ⟨rfl, rfl, rfl, rfl, rfl, trivial⟩ ?_
        exact J199 l1 l1r l2 l2r l3 l3r l6 l6r s hv hW
      · have hW := hW.2 c213
        obtain ⟨h215, hW⟩ := hW
        have h214 : iR (l3 + l6) := ⟨by omega, by omega⟩
        refine ir_l (pc' := 182) rfl rfl rfl rfl rfl rfl ?_
        refine ir_vgr (pc' := 185) (c := 597) rfl rfl rfl rfl rfl hv ?_
        refine ir_l (pc' := 186) rfl rfl rfl rfl rfl rfl ?_
        refine ir_l (pc' := 188) rfl rfl rfl rfl rfl rfl ?_
        refine ir_add (pc' := 189) rfl rfl h214.1 h214.2 ?_
        refine ir_via (pc' := 190) rfl rfl vg_597 rfl (Nat.le_of_ble_eq_true rfl) hv rfl h215 (fun r216 => ?_)
        refine ir_z_ne (pt := 199) (pc' := 193) rfl rfl rfl (fun c217 => ?_) (fun c217 => ?_)
        · have hW := hW.1 c217
          refine ir_w [(0, (2, ((582 : Nat) : Int))), (1, (0, l1)), (2, (0, l2)), (3, (0, l3)), (6, (0, l6))] ⟨rfl, rfl, rfl, rfl, rfl, trivial⟩ ?_
          exact J199 l1 l1r l2 l2r l3 l3r l6 l6r s hv hW
        · have hW := hW.2 c217
          obtain ⟨h218, hW⟩ := hW
          refine ir_inc (pc' := 196) rfl rfl rfl rfl rfl h218.1 h218.2 ?_
          refine ir_goto (pc' := 176) rfl rfl ?_
          refine ir_w [(0, (2, ((582 : Nat) : Int))), (1, (0, l1)), (2, (0, l2)), (3, (0, l3)), (6, (0, (l6 + (-1))))] ⟨rfl, rfl, rfl, rfl, rfl, trivial⟩ ?_
          exact ih176 (l6 + (-1)) h218 s hv hW.1 (Nat.lt_of_lt_of_le hW.2 (Nat.le_of_lt_succ hr176))
  have J51 : ∀ (l1 : Int) (l1r : iR l1) (l2 : Int) (l2r : iR l2) (l3 : Int) (l3r : iR l3) (l4 : Int) (l4r : iR l4) (l5 : Int) (l5r : iR l5) (I51 : Int × im_S → Prop) (r51 : Int × im_S → Nat) (hB51 : ∀ a : Int × im_S, I51 a → W_by_51 (fun b => I51 b ∧ r51 b < r51 a) l1 l2 l3 l4 l5 a.1 a.2 Q), ∀ n51 : Nat, ∀ (l6 : Int) (l6r : iR l6) (s : im_S) (hv : vI s), I51 (l6, s) → r51 (l6, s) < n51 → ir gG rm_P L ys (d + 1) rm_p_X10_by (51, [(0, (2, ((582 : Nat) : Int))), (1, (0, l1)), (2, (0, l2)), (3, (0, l3)), (4, (0, l4)), (5, (0, l5)), (6, (0, l6))], [], s) (fun r : im_Re => ∃ z, r.1 = some (0, z) ∧ (vI r.2 ∧ iR z ∧ Q z r.2)) := by
    intro l1 l1r l2 l2r l3 l3r l4 l4r l5 l5r I51 r51 hB51 n51
    induction n51 with
    | zero => intro l6 l6r s hv hI hr; exact absurd hr (Nat.not_lt_zero _)
    | succ n51 ih51 =>
      intro l6 l6r s hv hI hr51
      obtain ⟨t51, ht51⟩ : ∃ t51 : Int × im_S, t51 = (l6, s) := ⟨_, rfl⟩
      rw [← ht51] at hr51
      have hW : W_by_51 (fun b => I51 b ∧ r51 b < r51 t51) l1 l2 l3 l4 l5 l6 s Q := by have z := hB51 (l6, s) hI; rw [ht51]; exact z
      have J64 : ∀ (l6 : Int) (l6r : iR l6) (I64 : Int × Int × im_S → Prop) (r64 : Int × Int × im_S → Nat) (hB64 : ∀ a : Int × Int × im_S, I64 a → W_by_64 (fun b => I51 b ∧ r51 b < r51 t51) (fun b => I64 b ∧ r64 b < r64 a) l1 l2 l3 l4 l5 l6 a.1 a.2.1 a.2.2 Q), ∀ n64 : Nat, ∀ (l7 : Int) (l7r : lR l7) (l9 : Int) (l9r : iR l9) (s : im_S) (hv : vI s), I64 (l7, l9, s) → r64 (l7, l9, s) < n64 → ir gG rm_P L ys (d + 1) rm_p_X10_by (64, [(0, (2, ((582 : Nat) : Int))), (1, (0, l1)), (2, (0, l2)), (3, (0, l3)), (4, (0, l4)), (5, (0, l5)), (6, (0, l6)), (7, (1, l7)), (9, (0, l9))], [], s) (fun r : im_Re => ∃ z, r.1 = some (0, z) ∧ (vI r.2 ∧ iR z ∧ Q z r.2)) := by
        intro l6 l6r I64 r64 hB64 n64
        induction n64 with
        | zero => intro l7 l7r l9 l9r s hv hI hr; exact absurd hr (Nat.not_lt_zero _)
        | succ n64 ih64 =>
          intro l7 l7r l9 l9r s hv hI hr64
          obtain ⟨t64, ht64⟩ : ∃ t64 : Int × Int × im_S, t64 = (l7, l9, s) := ⟨_, rfl⟩
          rw [← ht64] at hr64
          have hW : W_by_64 (fun b => I51 b ∧ r51 b < r51 t51) (fun b => I64 b ∧ r64 b < r64 t64) l1 l2 l3 l4 l5 l6 l7 l9 s Q := by have z := hB64 (l7, l9, s) hI; rw [ht64]; exact z
          unfold W_by_64 at hW
          refine ir_l (pc' := 66) rfl rfl rfl rfl rfl rfl ?_
          refine ir_l (pc' := 68) rfl rfl rfl rfl rfl rfl ?_
          refine ir_c_gt (pt := 148) (pc' := 71) rfl rfl rfl (fun c219 => ?_) (fun c219 => ?_)
          · have hW := hW.1 c219
            obtain ⟨h220, h222, h223, hW⟩ := hW
            have h221 : iR ((l3 + l6) + l5) := ⟨by omega, by omega⟩
            refine ir_l (pc' := 149) rfl rfl rfl rfl rfl rfl ?_
            refine ir_vgr (pc' := 152) (c := 597) rfl rfl rfl rfl rfl hv ?_
            refine ir_l (pc' := 153) rfl rfl rfl rfl rfl rfl ?_
            refine ir_l (pc' := 155) rfl rfl rfl rfl rfl rfl ?_
            refine ir_add (pc' := 156) rfl rfl h220.1 h220.2 ?_
            refine ir_l (pc' := 158) rfl rfl rfl rfl rfl rfl ?_
            refine ir_add (pc' := 159) rfl rfl h221.1 h221.2 ?_
            refine ir_l (pc' := 161) rfl rfl rfl rfl rfl rfl ?_
            refine ir_l2i (pc' := 162) rfl rfl h222.1 h222.2 ?_
            refine ir_vis (pc' := 163) rfl rfl vg_597 rfl (Nat.le_of_ble_eq_true rfl) hv rfl h223 h222 (fun s224 s224e s224v => ?_)
            have hW := hW s224 s224e
            obtain ⟨h225, hW⟩ := hW
            refine ir_inc (pc' := 166) rfl rfl rfl rfl rfl h225.1 h225.2 ?_
            refine ir_goto (pc' := 51) rfl rfl ?_
            refine ir_w [(0, (2, ((582 : Nat) : Int))), (1, (0, l1)), (2, (0, l2)), (3, (0, l3)), (4, (0, l4)), (5, (0, l5)), (6, (0, (l6 + 1)))] ⟨rfl, rfl, rfl, rfl, rfl, rfl, rfl, trivial⟩ ?_
            exact ih51 (l6 + 1) h225 s224 s224v hW.1 (Nat.lt_of_lt_of_le hW.2 (Nat.le_of_lt_succ hr51))
          · have hW := hW.2 c219
            obtain ⟨h227, h230, h232, h233, h234, h236, h238, h239, h240, h241, hW⟩ := hW
            have h226 : iR (l1 + l6) := ⟨by omega, by omega⟩
            have h229 : iR (l2 + l9) := ⟨by omega, by omega⟩
            have h235 : iR (((l3 + l6) + l9) - 1) := ⟨by omega, by omega⟩
            refine ir_l (pc' := 72) rfl rfl rfl rfl rfl rfl ?_
            refine ir_vgr (pc' := 75) (c := 597) rfl rfl rfl rfl rfl hv ?_
            refine ir_l (pc' := 76) rfl rfl rfl rfl rfl rfl ?_
            refine ir_l (pc' := 78) rfl rfl rfl rfl rfl rfl ?_
            refine ir_add (pc' := 79) rfl rfl h226.1 h226.2 ?_
            refine ir_via (pc' := 80) rfl rfl vg_597 rfl (Nat.le_of_ble_eq_true rfl) hv rfl h227 (fun r228 => ?_)
            refine ir_i2l (pc' := 81) rfl rfl r228.1 r228.2 ?_
            refine ir_l (pc' := 82) rfl rfl rfl rfl rfl rfl ?_
            refine ir_vgr (pc' := 85) (c := 597) rfl rfl rfl rfl rfl hv ?_
            refine ir_l (pc' := 86) rfl rfl rfl rfl rfl rfl ?_
            refine ir_l (pc' := 88) rfl rfl rfl rfl rfl rfl ?_
            refine ir_add (pc' := 89) rfl rfl h229.1 h229.2 ?_
            refine ir_via (pc' := 90) rfl rfl vg_597 rfl (Nat.le_of_ble_eq_true rfl) hv rfl h230 (fun r231 => ?_)
            refine ir_i2l (pc' := 91) rfl rfl r231.1 r231.2 ?_
            refine ir_lmul (pc' := 92) rfl rfl h232.1 h232.2 ?_
            refine ir_l (pc' := 93) rfl rfl rfl rfl rfl rfl ?_
            refine ir_vgr (pc' := 96) (c := 597) rfl rfl rfl rfl rfl hv ?_
            refine ir_l (pc' := 97) rfl rfl rfl rfl rfl rfl ?_
            refine ir_l (pc' := 99) rfl rfl rfl rfl rfl rfl ?_
            refine ir_add (pc' := 100) rfl rfl h233.1 h233.2 ?_
            refine ir_l (pc' := 102) rfl rfl rfl rfl rfl rfl ?_
            refine ir_add (pc' := 103) rfl rfl h234.1 h234.2 ?_
            refine ir_k (pc' := 104) (v := (0, 1)) rfl rfl rfl (fun _ => rfl) ?_
            refine ir_sub (pc' := 105) rfl rfl h235.1 h235.2 ?_
            refine ir_via (pc' := 106) rfl rfl vg_597 rfl (Nat.le_of_ble_eq_true rfl) hv rfl h236 (fun r237 => ?_)
            refine ir_i2l (pc' := 107) rfl rfl r237.1 r237.2 ?_
            refine ir_ladd (pc' := 108) rfl rfl h238.1 h238.2 ?_
            refine ir_l (pc' := 110) rfl rfl rfl rfl rfl rfl ?_
            refine ir_ladd (pc' := 111) rfl rfl h239.1 h239.2 ?_
            refine ir_s2 (pc' := 113) rfl rfl rfl rfl rfl rfl ?_
            refine ir_l (pc' := 115) rfl rfl rfl rfl rfl rfl ?_
            refine ir_k (pc' := 118) (v := (1, 1000000000)) rfl rfl rfl (fun _ => rfl) ?_
            refine ir_ldiv (pc' := 119) rfl rfl h239.1 h239.2 (by decide) (⟨by decide, by decide⟩ : lR 1000000000).2 ?_
            refine ir_s2 (pc' := 121) rfl rfl rfl rfl rfl rfl ?_
            refine ir_l (pc' := 122) rfl rfl rfl rfl rfl rfl ?_
            refine ir_vgr (pc' := 125) (c := 597) rfl rfl rfl rfl rfl hv ?_
            refine ir_l (pc' := 126) rfl rfl rfl rfl rfl rfl ?_
            refine ir_l (pc' := 128) rfl rfl rfl rfl rfl rfl ?_
            refine ir_add (pc' := 129) rfl rfl h233.1 h233.2 ?_
            refine ir_l (pc' := 131) rfl rfl rfl rfl rfl rfl ?_
            refine ir_add (pc' := 132) rfl rfl h234.1 h234.2 ?_
            refine ir_k (pc' := 133) (v := (0, 1)) rfl rfl rfl (fun _ => rfl) ?_
            refine ir_sub (pc' := 134) rfl rfl h235.1 h235.2 ?_
            refine ir_l (pc' := 136) rfl rfl rfl rfl rfl rfl ?_
            refine ir_k (pc' := 139) (v := (1, 1000000000)) rfl rfl rfl (fun _ => rfl) ?_
            refine ir_lrem (pc' := 140) rfl rfl h239.1 h239.2 (by decide) (⟨by decide, by decide⟩ : lR 1000000000).2 ?_
            refine ir_l2i (pc' := 141) rfl rfl h240.1 h240.2 ?_
            refine ir_vis (pc' := 142) rfl rfl vg_597 rfl (Nat.le_of_ble_eq_true rfl) hv rfl h241 h240 (fun s242 s242e s242v => ?_)
            have hW := hW s242 s242e
            obtain ⟨h243, hW⟩ := hW
            refine ir_inc (pc' := 145) rfl rfl rfl rfl rfl h243.1 h243.2 ?_
            refine ir_goto (pc' := 64) rfl rfl ?_
            refine ir_w [(0, (2, ((582 : Nat) : Int))), (1, (0, l1)), (2, (0, l2)), (3, (0, l3)), (4, (0, l4)), (5, (0, l5)), (6, (0, l6)), (7, (1, (((((wga s 597 (l1 + l6)) * (wga s 597 (l2 + l9))) + (wga s 597 (((l3 + l6) + l9) - 1))) + l7).tdiv 1000000000))), (9, (0, (l9 + 1)))] ⟨rfl, rfl, rfl, rfl, rfl, rfl, rfl, rfl, rfl, trivial⟩ ?_
            exact ih64 (((((wga s 597 (l1 + l6)) * (wga s 597 (l2 + l9))) + (wga s 597 (((l3 + l6) + l9) - 1))) + l7).tdiv 1000000000) (w_tdiv1 h239 (by decide) (⟨by decide, by decide⟩ : lR 1000000000)) (l9 + 1) h243 s242 s242v hW.1 (Nat.lt_of_lt_of_le hW.2 (Nat.le_of_lt_succ hr64))
      unfold W_by_51 at hW
      refine ir_l (pc' := 53) rfl rfl rfl rfl rfl rfl ?_
      refine ir_l (pc' := 55) rfl rfl rfl rfl rfl rfl ?_
      refine ir_c_gt (pt := 169) (pc' := 58) rfl rfl rfl (fun c244 => ?_) (fun c244 => ?_)
      · have hW := hW.1 c244
        obtain ⟨h245, hW⟩ := hW
        refine ir_l (pc' := 171) rfl rfl rfl rfl rfl rfl ?_
        refine ir_l (pc' := 173) rfl rfl rfl rfl rfl rfl ?_
        refine ir_add (pc' := 174) rfl rfl h245.1 h245.2 ?_
        refine ir_s (pc' := 176) rfl rfl rfl rfl rfl rfl ?_
        refine ir_w [(0, (2, ((582 : Nat) : Int))), (1, (0, l1)), (2, (0, l2)), (3, (0, l3)), (6, (0, (l4 + l5)))] ⟨rfl, rfl, rfl, rfl, rfl, trivial⟩ ?_
        obtain ⟨I9, r9, hI9, hB9⟩ := hW
        exact J176 l1 l1r l2 l2r l3 l3r I9 r9 hB9 _ (l4 + l5) h245 s hv hI9 (Nat.lt_succ_self _)
      · have hW := hW.2 c244
        refine ir_k (pc' := 59) (v := (1, 0)) rfl rfl rfl (fun _ => rfl) ?_
        refine ir_s2 (pc' := 61) rfl rfl rfl rfl rfl rfl ?_
        refine ir_k (pc' := 62) (v := (0, 1)) rfl rfl rfl (fun _ => rfl) ?_
        refine ir_s (pc' := 64) rfl rfl rfl rfl rfl rfl ?_
        refine ir_w [(0, (2, ((582 : Nat) : Int))), (1, (0, l1)), (2, (0, l2)), (3, (0, l3)), (4, (0, l4)), (5, (0, l5)), (6, (0, l6)), (7, (1, 0)), (9, (0, 1))] ⟨rfl, rfl, rfl, rfl, rfl, rfl, rfl, rfl, rfl, trivial⟩ ?_
        obtain ⟨I9, r9, hI9, hB9⟩ := hW
        exact J64 l6 l6r I9 r9 hB9 _ 0 (⟨by decide, by decide⟩ : lR 0) 1 (zR_i (Or.inr rfl)) s hv hI9 (Nat.lt_succ_self _)
  have J22 : ∀ (l1 : Int) (l1r : iR l1) (l2 : Int) (l2r : iR l2) (l3 : Int) (l3r : iR l3) (l4 : Int) (l4r : iR l4) (l5 : Int) (l5r : iR l5) (I22 : Int × im_S → Prop) (r22 : Int × im_S → Nat) (hB22 : ∀ a : Int × im_S, I22 a → W_by_22 (fun b => I22 b ∧ r22 b < r22 a) l1 l2 l3 l4 l5 a.1 a.2 Q), ∀ n22 : Nat, ∀ (l6 : Int) (l6r : iR l6) (s : im_S) (hv : vI s), I22 (l6, s) → r22 (l6, s) < n22 → ir gG rm_P L ys (d + 1) rm_p_X10_by (22, [(0, (2, ((582 : Nat) : Int))), (1, (0, l1)), (2, (0, l2)), (3, (0, l3)), (4, (0, l4)), (5, (0, l5)), (6, (0, l6))], [], s) (fun r : im_Re => ∃ z, r.1 = some (0, z) ∧ (vI r.2 ∧ iR z ∧ Q z r.2)) := by
    intro l1 l1r l2 l2r l3 l3r l4 l4r l5 l5r I22 r22 hB22 n22
    induction n22 with
    | zero => intro l6 l6r s hv hI hr; exact absurd hr (Nat.not_lt_zero _)
    | succ n22 ih22 =>
      intro l6 l6r s hv hI hr22
      obtain ⟨t22, ht22⟩ : ∃ t22 : Int × im_S, t22 = (l6, s) := ⟨_, rfl⟩
      rw [← ht22] at hr22
      have hW : W_by_22 (fun b => I22 b ∧ r22 b < r22 t22) l1 l2 l3 l4 l5 l6 s Q := by have z := hB22 (l6, s) hI; rw [ht22]; exact z
      unfold W_by_22 at hW
      obtain ⟨h246, hW⟩ := hW
      refine ir_l (pc' := 24) rfl rfl rfl rfl rfl rfl ?_
      refine ir_l (pc' := 26) rfl rfl rfl rfl rfl rfl ?_
      refine ir_l (pc' := 28) rfl rfl rfl rfl rfl rfl ?_
      refine ir_add (pc' := 29) rfl rfl h246.1 h246.2 ?_
      refine ir_c_gt (pt := 48) (pc' := 32) rfl rfl rfl (fun c247 => ?_) (fun c247 => ?_)
      · have hW := hW.1 c247
        refine ir_k (pc' := 49) (v := (0, 1)) rfl rfl rfl (fun _ => rfl) ?_
        refine ir_s (pc' := 51) rfl rfl rfl rfl rfl rfl ?_
        refine ir_w [(0, (2, ((582 : Nat) : Int))), (1, (0, l1)), (2, (0, l2)), (3, (0, l3)), (4, (0, l4)), (5, (0, l5)), (6, (0, 1))] ⟨rfl, rfl, rfl, rfl, rfl, rfl, rfl, trivial⟩ ?_
        obtain ⟨I9, r9, hI9, hB9⟩ := hW
        exact J51 l1 l1r l2 l2r l3 l3r l4 l4r l5 l5r I9 r9 hB9 _ 1 (zR_i (Or.inr rfl)) s hv hI9 (Nat.lt_succ_self _)
      · have hW := hW.2 c247
        obtain ⟨h249, hW⟩ := hW
        have h248 : iR (l3 + l6) := ⟨by omega, by omega⟩
        refine ir_l (pc' := 33) rfl rfl rfl rfl rfl rfl ?_
        refine ir_vgr (pc' := 36) (c := 597) rfl rfl rfl rfl rfl hv ?_
        refine ir_l (pc' := 37) rfl rfl rfl rfl rfl rfl ?_
        refine ir_l (pc' := 39) rfl rfl rfl rfl rfl rfl ?_
        refine ir_add (pc' := 40) rfl rfl h248.1 h248.2 ?_
        refine ir_k (pc' := 41) (v := (0, 0)) rfl rfl rfl (fun _ => rfl) ?_
        refine ir_vis (pc' := 42) rfl rfl vg_597 rfl (Nat.le_of_ble_eq_true rfl) hv rfl h249 (zR_i (Or.inl rfl)) (fun s250 s250e s250v => ?_)
        have hW := hW s250 s250e
        obtain ⟨h251, hW⟩ := hW
        refine ir_inc (pc' := 45) rfl rfl rfl rfl rfl h251.1 h251.2 ?_
        refine ir_goto (pc' := 22) rfl rfl ?_
        refine ir_w [(0, (2, ((582 : Nat) : Int))), (1, (0, l1)), (2, (0, l2)), (3, (0, l3)), (4, (0, l4)), (5, (0, l5)), (6, (0, (l6 + 1)))] ⟨rfl, rfl, rfl, rfl, rfl, rfl, rfl, trivial⟩ ?_
        exact ih22 (l6 + 1) h251 s250 s250v hW.1 (Nat.lt_of_lt_of_le hW.2 (Nat.le_of_lt_succ hr22))
  unfold W_by at hW
  refine ir_l (pc' := 1) rfl rfl rfl rfl rfl rfl ?_
  refine ir_vgi (pc' := 4) rfl rfl rfl rfl rfl hv (fun r252 => ?_)
  refine ir_s (pc' := 5) rfl rfl rfl rfl rfl rfl ?_
  refine ir_l (pc' := 6) rfl rfl rfl rfl rfl rfl ?_
  refine ir_l (pc' := 7) rfl rfl rfl rfl rfl rfl ?_
  refine ir_cVI (pc' := 10) rfl rfl rfl rfl rfl (Nat.le_of_ble_eq_true rfl) oo_X10_limbs vg_582 (w_limbs L ys d s hv l1 l1r _ hW) (fun z254 s253 hr => ?_)
  obtain ⟨s253v, z254r, hW⟩ := hr
  refine ir_s (pc' := 12) rfl rfl rfl rfl rfl rfl ?_
  refine ir_l (pc' := 13) rfl rfl rfl rfl rfl rfl ?_
  refine ir_l (pc' := 14) rfl rfl rfl rfl rfl rfl ?_
  refine ir_cVI (pc' := 17) rfl rfl rfl rfl rfl (Nat.le_of_ble_eq_true rfl) oo_X10_limbs vg_582 (w_limbs L ys d s253 s253v l2 l2r _ hW) (fun z256 s255 hr => ?_)
  obtain ⟨s255v, z256r, hW⟩ := hr
  refine ir_s (pc' := 19) rfl rfl rfl rfl rfl rfl ?_
  refine ir_k (pc' := 20) (v := (0, 0)) rfl rfl rfl (fun _ => rfl) ?_
  refine ir_s (pc' := 22) rfl rfl rfl rfl rfl rfl ?_
  refine ir_w [(0, (2, ((582 : Nat) : Int))), (1, (0, l1)), (2, (0, l2)), (3, (0, (wgf s 24))), (4, (0, z254)), (5, (0, z256)), (6, (0, 0))] ⟨rfl, rfl, rfl, rfl, rfl, rfl, rfl, trivial⟩ ?_
  obtain ⟨I9, r9, hI9, hB9⟩ := hW
  exact J22 l1 l1r l2 l2r (wgf s 24) r252 z254 z254r z256 z256r I9 r9 hB9 _ 0 (zR_i (Or.inl rfl)) s255 s255v hI9 (Nat.lt_succ_self _)
def W_copyTo_9 (K9 : Int × im_S → Prop) (l1 : Int) (l2 : Int) (l3 : Int) (l4 : Int) (s : im_S) (Q : im_S → Prop) : Prop := ((l3 < l4 → (Q s)) ∧ (¬ (l3 < l4) → ((0 ≤ (l1 + l4) ∧ (l1 + l4) < 700000) ∧ (0 ≤ (l2 + l4) ∧ (l2 + l4) < 700000) ∧ (∀ s7, s7 = wpa s 597 (l2 + l4) (wga s 597 (l1 + l4)) → ((iR (l4 + 1)) ∧ (K9 ((l4 + 1), s7)))))))
def W_copyTo (l1 : Int) (l2 : Int) (s : im_S) (Q : im_S → Prop) : Prop := (W_limbs l1 s (fun z10 s9 => (wloop (fun (K : Int × im_S → Prop) (a : Int × im_S) => W_copyTo_9 K l1 l2 z10 a.1 a.2 Q) (0, s9))))
set_option maxRecDepth 16384 in
theorem w_copyTo (L : Nat) (ys : Nat → Int32) (d : Nat) (s : im_S) (hv : vI s) (l1 : Int) (l1r : iR l1) (l2 : Int) (l2r : iR l2) (Q : im_S → Prop) (hW : W_copyTo l1 l2 s Q) : icV gG rm_P L ys (d + 2) 24 [(2, ((582 : Nat) : Int)), (0, l1), (0, l2)] s (fun s9 => vI s9 ∧ Q s9) := by
  refine ic_startM (M := rm_p_X10_copyTo) om_X10_copyTo (Nat.le_of_ble_eq_true rfl) ?_
  refine ir_w [(0, (2, ((582 : Nat) : Int))), (1, (0, l1)), (2, (0, l2))] ⟨rfl, rfl, rfl, trivial⟩ ?_
  have J9 : ∀ (l1 : Int) (l1r : iR l1) (l2 : Int) (l2r : iR l2) (l3 : Int) (l3r : iR l3) (I9 : Int × im_S → Prop) (r9 : Int × im_S → Nat) (hB9 : ∀ a : Int × im_S, I9 a → W_copyTo_9 (fun b => I9 b ∧ r9 b < r9 a) l1 l2 l3 a.1 a.2 Q), ∀ n9 : Nat, ∀ (l4 : Int) (l4r : iR l4) (s : im_S) (hv : vI s), I9 (l4, s) → r9 (l4, s) < n9 → ir gG rm_P L ys (d + 1) rm_p_X10_copyTo (9, [(0, (2, ((582 : Nat) : Int))), (1, (0, l1)), (2, (0, l2)), (3, (0, l3)), (4, (0, l4))], [], s) (fun r : im_Re => r.1 = none ∧ (vI r.2 ∧ Q r.2)) := by
    intro l1 l1r l2 l2r l3 l3r I9 r9 hB9 n9
    induction n9 with
    | zero => intro l4 l4r s hv hI hr; exact absurd hr (Nat.not_lt_zero _)
    | succ n9 ih9 =>
      intro l4 l4r s hv hI hr9
      obtain ⟨t9, ht9⟩ : ∃ t9 : Int × im_S, t9 = (l4, s) := ⟨_, rfl⟩
      rw [← ht9] at hr9
      have hW : W_copyTo_9 (fun b => I9 b ∧ r9 b < r9 t9) l1 l2 l3 l4 s Q := by have z := hB9 (l4, s) hI; rw [ht9]; exact z
      unfold W_copyTo_9 at hW
      refine ir_l (pc' := 11) rfl rfl rfl rfl rfl rfl ?_
      refine ir_l (pc' := 12) rfl rfl rfl rfl rfl rfl ?_
      refine ir_c_gt (pt := 39) (pc' := 15) rfl rfl rfl (fun c1 => ?_) (fun c1 => ?_)
      · have hW := hW.1 c1
        exact ir_vret rfl rfl ⟨rfl, hv, hW⟩
      · have hW := hW.2 c1
        obtain ⟨h4, h6, hW⟩ := hW
        have h2 : iR (l2 + l4) := ⟨by omega, by omega⟩
        have h3 : iR (l1 + l4) := ⟨by omega, by omega⟩
        refine ir_l (pc' := 16) rfl rfl rfl rfl rfl rfl ?_
        refine ir_vgr (pc' := 19) (c := 597) rfl rfl rfl rfl rfl hv ?_
        refine ir_l (pc' := 20) rfl rfl rfl rfl rfl rfl ?_
        refine ir_l (pc' := 22) rfl rfl rfl rfl rfl rfl ?_
        refine ir_add (pc' := 23) rfl rfl h2.1 h2.2 ?_
        refine ir_l (pc' := 24) rfl rfl rfl rfl rfl rfl ?_
        refine ir_vgr (pc' := 27) (c := 597) rfl rfl rfl rfl rfl hv ?_
        refine ir_l (pc' := 28) rfl rfl rfl rfl rfl rfl ?_
        refine ir_l (pc' := 30) rfl rfl rfl rfl rfl rfl ?_
        refine ir_add (pc' := 31) rfl rfl h3.1 h3.2 ?_
        refine ir_via (pc' := 32) rfl rfl vg_597 rfl (Nat.le_of_ble_eq_true rfl) hv rfl h4 (fun r5 => ?_)
        refine ir_vis (pc' := 33) rfl rfl vg_597 rfl (Nat.le_of_ble_eq_true rfl) hv rfl h6 r5 (fun s7 s7e s7v => ?_)
        have hW := hW s7 s7e
        obtain ⟨h8, hW⟩ := hW
        refine ir_inc (pc' := 36) rfl rfl rfl rfl rfl h8.1 h8.2 ?_
        refine ir_goto (pc' := 9) rfl rfl ?_
        refine ir_w [(0, (2, ((582 : Nat) : Int))), (1, (0, l1)), (2, (0, l2)), (3, (0, l3)), (4, (0, (l4 + 1)))] ⟨rfl, rfl, rfl, rfl, rfl, trivial⟩ ?_
        exact ih9 (l4 + 1) h8 s7 s7v hW.1 (Nat.lt_of_lt_of_le hW.2 (Nat.le_of_lt_succ hr9))
  unfold W_copyTo at hW
  refine ir_l (pc' := 1) rfl rfl rfl rfl rfl rfl ?_
  refine ir_l (pc' := 2) rfl rfl rfl rfl rfl rfl ?_
  refine ir_cVI (pc' := 5) rfl rfl rfl rfl rfl (Nat.le_of_ble_eq_true rfl) oo_X10_limbs vg_582 (w_limbs L ys d s hv l1 l1r _ hW) (fun z10 s9 hr => ?_)
  obtain ⟨s9v, z10r, hW⟩ := hr
  refine ir_s (pc' := 6) rfl rfl rfl rfl rfl rfl ?_
  refine ir_k (pc' := 7) (v := (0, 0)) rfl rfl rfl (fun _ => rfl) ?_
  refine ir_s (pc' := 9) rfl rfl rfl rfl rfl rfl ?_
  refine ir_w [(0, (2, ((582 : Nat) : Int))), (1, (0, l1)), (2, (0, l2)), (3, (0, z10)), (4, (0, 0))] ⟨rfl, rfl, rfl, rfl, rfl, trivial⟩ ?_
  obtain ⟨I9, r9, hI9, hB9⟩ := hW
  exact J9 l1 l1r l2 l2r z10 z10r I9 r9 hB9 _ 0 (zR_i (Or.inl rfl)) s9 s9v hI9 (Nat.lt_succ_self _)
def W_again (l1 : Int) (s : im_S) (Q : Int → im_S → Prop) : Prop := (W_copyTo l1 (wgf s 24) s (fun s2 => (W_limbs (wgf s 24) s2 (fun z5 s4 => ((iR ((wgf s 24) + z5)) ∧ (iR (((wgf s 24) + z5) + 1)) ∧ (∀ s8, s8 = wpf s4 24 (((wgf s 24) + z5) + 1) → (Q (wgf s 24) s8)))))))
set_option maxRecDepth 16384 in
theorem w_again (L : Nat) (ys : Nat → Int32) (d : Nat) (s : im_S) (hv : vI s) (l1 : Int) (l1r : iR l1) (Q : Int → im_S → Prop) (hW : W_again l1 s Q) : icI gG rm_P L ys 0 (d + 3) 8 [(2, ((582 : Nat) : Int)), (0, l1)] s (fun z9 s9 => vI s9 ∧ iR z9 ∧ Q z9 s9) := by
  refine ic_startM (M := rm_p_X10_again) om_X10_again (Nat.le_of_ble_eq_true rfl) ?_
  refine ir_w [(0, (2, ((582 : Nat) : Int))), (1, (0, l1))] ⟨rfl, rfl, trivial⟩ ?_
  unfold W_again at hW
  refine ir_l (pc' := 1) rfl rfl rfl rfl rfl rfl ?_
  refine ir_vgi (pc' := 4) rfl rfl rfl rfl rfl hv (fun r1 => ?_)
  refine ir_s (pc' := 5) rfl rfl rfl rfl rfl rfl ?_
  refine ir_l (pc' := 6) rfl rfl rfl rfl rfl rfl ?_
  refine ir_l (pc' := 7) rfl rfl rfl rfl rfl rfl ?_
  refine ir_l (pc' := 8) rfl rfl rfl rfl rfl rfl ?_
  refine ir_cVV (pc' := 11) rfl rfl rfl rfl rfl (Nat.le_of_ble_eq_true rfl) oo_X10_copyTo vg_582 (w_copyTo L ys d s hv l1 l1r (wgf s 24) r1 _ hW) (fun s2 hr => ?_)
  obtain ⟨s2v, hW⟩ := hr
  refine ir_l (pc' := 12) rfl rfl rfl rfl rfl rfl ?_
  refine ir_l (pc' := 13) rfl rfl rfl rfl rfl rfl ?_
  refine ir_l (pc' := 14) rfl rfl rfl rfl rfl rfl ?_
  refine ir_l (pc' := 15) rfl rfl rfl rfl rfl rfl ?_
  refine ir_cVI (pc' := 18) rfl rfl rfl rfl rfl (Nat.le_of_ble_eq_true rfl) oo_X10_limbs vg_582 (w_limbs L ys (d + 1) s2 s2v (wgf s 24) r1 _ hW) (fun z5 s4 hr => ?_)
  obtain ⟨s4v, z5r, hW⟩ := hr
  obtain ⟨h6, h7, hW⟩ := hW
  refine ir_add (pc' := 19) rfl rfl h6.1 h6.2 ?_
  refine ir_k (pc' := 20) (v := (0, 1)) rfl rfl rfl (fun _ => rfl) ?_
  refine ir_add (pc' := 21) rfl rfl h7.1 h7.2 ?_
  refine ir_vpi (pc' := 24) rfl rfl rfl rfl rfl rfl rfl s4v h7 (fun s8 s8e s8v => ?_)
  have hW := hW s8 s8e
  refine ir_l (pc' := 25) rfl rfl rfl rfl rfl rfl ?_
  exact ir_iret rfl rfl ⟨_, rfl, s8v, r1, hW⟩
def W_weigh_66 (l1 : Int) (l2 : Int) (l5 : Int) (s : im_S) (Q : Int → im_S → Prop) : Prop := ((¬ (l5 = 0) → (0 ≤ (l1 + l5) ∧ (l1 + l5) < 700000)) ∧ (¬ (l5 = 0) → (0 ≤ (l2 + l5) ∧ (l2 + l5) < 700000)) ∧ (∀ v201 : Int, v201 = (if ¬ (l5 = 0) then (if (wga s 597 (l2 + l5)) ≤ (wga s 597 (l1 + l5)) then 1 else (-1)) else 0) → (Q v201 s)))
def W_weigh_34 (K34 : Int × im_S → Prop) (l1 : Int) (l2 : Int) (l5 : Int) (s : im_S) (Q : Int → im_S → Prop) : Prop := ((l5 ≤ 0 → (W_weigh_66 l1 l2 l5 s Q)) ∧ (¬ (l5 ≤ 0) → ((0 ≤ (l1 + l5) ∧ (l1 + l5) < 700000) ∧ (0 ≤ (l2 + l5) ∧ (l2 + l5) < 700000) ∧ ((¬ ((wga s 597 (l1 + l5)) = (wga s 597 (l2 + l5))) → (W_weigh_66 l1 l2 l5 s Q)) ∧ ((wga s 597 (l1 + l5)) = (wga s 597 (l2 + l5)) → ((iR (l5 + (-1))) ∧ (K34 ((l5 + (-1)), s))))))))
def W_weigh (l1 : Int) (l2 : Int) (s : im_S) (Q : Int → im_S → Prop) : Prop := (W_limbs l1 s (fun z213 s212 => (W_limbs l2 s212 (fun z215 s214 => ((z213 = z215 → (wloop (fun (K : Int × im_S → Prop) (a : Int × im_S) => W_weigh_34 K l1 l2 a.1 a.2 Q) (z213, s214))) ∧ (¬ (z213 = z215) → (∀ v417 : Int, v417 = (if z215 ≤ z213 then 1 else (-1)) → (Q v417 s214))))))))
set_option maxRecDepth 16384 in
theorem w_weigh (L : Nat) (ys : Nat → Int32) (d : Nat) (s : im_S) (hv : vI s) (l1 : Int) (l1r : iR l1) (l2 : Int) (l2r : iR l2) (Q : Int → im_S → Prop) (hW : W_weigh l1 l2 s Q) : icI gG rm_P L ys 0 (d + 2) 106 [(2, ((582 : Nat) : Int)), (0, l1), (0, l2)] s (fun z9 s9 => vI s9 ∧ iR z9 ∧ Q z9 s9) := by
  refine ic_startM (M := rm_p_X10_weigh) om_X10_weigh (Nat.le_of_ble_eq_true rfl) ?_
  refine ir_w [(0, (2, ((582 : Nat) : Int))), (1, (0, l1)), (2, (0, l2))] ⟨rfl, rfl, rfl, trivial⟩ ?_
  have J66 : ∀ (l1 : Int) (l1r : iR l1) (l2 : Int) (l2r : iR l2) (l5 : Int) (l5r : iR l5) (s : im_S) (hv : vI s), W_weigh_66 l1 l2 l5 s Q → ir gG rm_P L ys (d + 1) rm_p_X10_weigh (66, [(0, (2, ((582 : Nat) : Int))), (1, (0, l1)), (2, (0, l2)), (5, (0, l5))], [], s) (fun r : im_Re => ∃ z, r.1 = some (0, z) ∧ (vI r.2 ∧ iR z ∧ Q z r.2)) := by
    intro l1 l1r l2 l2r l5 l5r s hv hW
    unfold W_weigh_66 at hW
    obtain ⟨h3, h6, hW⟩ := hW
    have h2 : ¬ (l5 = 0) → iR (l1 + l5) := fun g0_ => ⟨by have z := h3 g0_; omega, by have z := h3 g0_; omega⟩
    have h5 : ¬ (l5 = 0) → iR (l2 + l5) := fun g0_ => ⟨by have z := h6 g0_; omega, by have z := h6 g0_; omega⟩
    refine ir_l (pc' := 68) rfl rfl rfl rfl rfl rfl ?_
    have J202 : ∀ v201 : Int, iR v201 → ((Q v201 s)) → ir gG rm_P L ys (d + 1) rm_p_X10_weigh (101, [], [(0, v201)], s) (fun r : im_Re => ∃ z, r.1 = some (0, z) ∧ (vI r.2 ∧ iR z ∧ Q z r.2)) := by
      intro v201 v201r hW
      exact ir_iret rfl rfl ⟨_, rfl, hv, v201r, hW⟩
    refine ir_z_ne (pt := 75) (pc' := 71) rfl rfl rfl (fun c1 => ?_) (fun c1 => ?_)
    · refine ir_l (pc' := 76) rfl rfl rfl rfl rfl rfl ?_
      refine ir_vgr (pc' := 79) (c := 597) rfl rfl rfl rfl rfl hv ?_
      refine ir_l (pc' := 80) rfl rfl rfl rfl rfl rfl ?_
      refine ir_l (pc' := 82) rfl rfl rfl rfl rfl rfl ?_
      refine ir_add (pc' := 83) rfl rfl (h2 c1).1 (h2 c1).2 ?_
      refine ir_via (pc' := 84) rfl rfl vg_597 rfl (Nat.le_of_ble_eq_true rfl) hv rfl (h3 c1) (fun r4 => ?_)
      refine ir_l (pc' := 85) rfl rfl rfl rfl rfl rfl ?_
      refine ir_vgr (pc' := 88) (c := 597) rfl rfl rfl rfl rfl hv ?_
      refine ir_l (pc' := 89) rfl rfl rfl rfl rfl rfl ?_
      refine ir_l (pc' := 91) rfl rfl rfl rfl rfl rfl ?_
      refine ir_add (pc' := 92) rfl rfl (h5 c1).1 (h5 c1).2 ?_
      refine ir_via (pc' := 93) rfl rfl vg_597 rfl (Nat.le_of_ble_eq_true rfl) hv rfl (h6 c1) (fun r7 => ?_)
      refine ir_c_ge (pt := 100) (pc' := 96) rfl rfl rfl (fun c8 => ?_) (fun c8 => ?_)
      · refine ir_k (pc' := 101) (v := (0, 1)) rfl rfl rfl (fun _ => rfl) ?_
        refine ir_w [] trivial ?_
        exact J202 1 (zR_i (Or.inr rfl)) (hW _ (by rw [if_pos c1, if_pos c8]))
      · refine ir_k (pc' := 97) (v := (0, (-1))) rfl rfl rfl (fun _ => rfl) ?_
        refine ir_goto (pc' := 101) rfl rfl ?_
        refine ir_w [] trivial ?_
        exact J202 (-1) (⟨by decide, by decide⟩ : iR (-1)) (hW _ (by rw [if_pos c1, if_neg (fun z => c8 z)]))
    · refine ir_k (pc' := 72) (v := (0, 0)) rfl rfl rfl (fun _ => rfl) ?_
      refine ir_goto (pc' := 101) rfl rfl ?_
      refine ir_w [] trivial ?_
      exact J202 0 (zR_i (Or.inl rfl)) (hW _ (by rw [if_neg (by omega)]))
  have J34 : ∀ (l1 : Int) (l1r : iR l1) (l2 : Int) (l2r : iR l2) (I34 : Int × im_S → Prop) (r34 : Int × im_S → Nat) (hB34 : ∀ a : Int × im_S, I34 a → W_weigh_34 (fun b => I34 b ∧ r34 b < r34 a) l1 l2 a.1 a.2 Q), ∀ n34 : Nat, ∀ (l5 : Int) (l5r : iR l5) (s : im_S) (hv : vI s), I34 (l5, s) → r34 (l5, s) < n34 → ir gG rm_P L ys (d + 1) rm_p_X10_weigh (34, [(0, (2, ((582 : Nat) : Int))), (1, (0, l1)), (2, (0, l2)), (5, (0, l5))], [], s) (fun r : im_Re => ∃ z, r.1 = some (0, z) ∧ (vI r.2 ∧ iR z ∧ Q z r.2)) := by
    intro l1 l1r l2 l2r I34 r34 hB34 n34
    induction n34 with
    | zero => intro l5 l5r s hv hI hr; exact absurd hr (Nat.not_lt_zero _)
    | succ n34 ih34 =>
      intro l5 l5r s hv hI hr34
      obtain ⟨t34, ht34⟩ : ∃ t34 : Int × im_S, t34 = (l5, s) := ⟨_, rfl⟩
      rw [← ht34] at hr34
      have hW : W_weigh_34 (fun b => I34 b ∧ r34 b < r34 t34) l1 l2 l5 s Q := by have z := hB34 (l5, s) hI; rw [ht34]; exact z
      unfold W_weigh_34 at hW
      refine ir_l (pc' := 36) rfl rfl rfl rfl rfl rfl ?_
      refine ir_z_le (pt := 66) (pc' := 39) rfl rfl rfl (fun c203 => ?_) (fun c203 => ?_)
      · have hW := hW.1 c203
        refine ir_w [(0, (2, ((582 : Nat) : Int))), (1, (0, l1)), (2, (0, l2)), (5, (0, l5))] ⟨rfl, rfl, rfl, rfl, trivial⟩ ?_
        exact J66 l1 l1r l2 l2r l5 l5r s hv hW
      · have hW := hW.2 c203
        obtain ⟨h205, h208, hW⟩ := hW
        have h204 : iR (l1 + l5) := ⟨by omega, by omega⟩
        have h207 : iR (l2 + l5) := ⟨by omega, by omega⟩
        refine ir_l (pc' := 40) rfl rfl rfl rfl rfl rfl ?_
        refine ir_vgr (pc' := 43) (c := 597) rfl rfl rfl rfl rfl hv ?_
        refine ir_l (pc' := 44) rfl rfl rfl rfl rfl rfl ?_
        refine ir_l (pc' := 46) rfl rfl rfl rfl rfl rfl ?_
        refine ir_add (pc' := 47) rfl rfl h204.1 h204.2 ?_
        refine ir_via (pc' := 48) rfl rfl vg_597 rfl (Nat.le_of_ble_eq_true rfl) hv rfl h205 (fun r206 => ?_)
        refine ir_l (pc' := 49) rfl rfl rfl rfl rfl rfl ?_
        refine ir_vgr (pc' := 52) (c := 597) rfl rfl rfl rfl rfl hv ?_
        refine ir_l (pc' := 53) rfl rfl rfl rfl rfl rfl ?_
        refine ir_l (pc' := 55) rfl rfl rfl rfl rfl rfl ?_
        refine ir_add (pc' := 56) rfl rfl h207.1 h207.2 ?_
        refine ir_via (pc' := 57) rfl rfl vg_597 rfl (Nat.le_of_ble_eq_true rfl) hv rfl h208 (fun r209 => ?_)
        refine ir_c_ne (pt := 66) (pc' := 60) rfl rfl rfl (fun c210 => ?_) (fun c210 => ?_)
        · have hW := hW.1 c210
          refine ir_w [(0, (2, ((582 : Nat) : Int))), (1, (0, l1)), (2, (0, l2)), (5, (0, l5))] ⟨rfl, rfl, rfl, rfl, trivial⟩ ?_
          exact J66 l1 l1r l2 l2r l5 l5r s hv hW
        · have hW := hW.2 c210
          obtain ⟨h211, hW⟩ := hW
          refine ir_inc (pc' := 63) rfl rfl rfl rfl rfl h211.1 h211.2 ?_
          refine ir_goto (pc' := 34) rfl rfl ?_
          refine ir_w [(0, (2, ((582 : Nat) : Int))), (1, (0, l1)), (2, (0, l2)), (5, (0, (l5 + (-1))))] ⟨rfl, rfl, rfl, rfl, trivial⟩ ?_
          exact ih34 (l5 + (-1)) h211 s hv hW.1 (Nat.lt_of_lt_of_le hW.2 (Nat.le_of_lt_succ hr34))
  unfold W_weigh at hW
  refine ir_l (pc' := 1) rfl rfl rfl rfl rfl rfl ?_
  refine ir_l (pc' := 2) rfl rfl rfl rfl rfl rfl ?_
  refine ir_cVI (pc' := 5) rfl rfl rfl rfl rfl (Nat.le_of_ble_eq_true rfl) oo_X10_limbs vg_582 (w_limbs L ys d s hv l1 l1r _ hW) (fun z213 s212 hr => ?_)
  obtain ⟨s212v, z213r, hW⟩ := hr
  refine ir_s (pc' := 6) rfl rfl rfl rfl rfl rfl ?_
  refine ir_l (pc' := 7) rfl rfl rfl rfl rfl rfl ?_
  refine ir_l (pc' := 8) rfl rfl rfl rfl rfl rfl ?_
  refine ir_cVI (pc' := 11) rfl rfl rfl rfl rfl (Nat.le_of_ble_eq_true rfl) oo_X10_limbs vg_582 (w_limbs L ys d s212 s212v l2 l2r _ hW) (fun z215 s214 hr => ?_)
  obtain ⟨s214v, z215r, hW⟩ := hr
  refine ir_s (pc' := 13) rfl rfl rfl rfl rfl rfl ?_
  refine ir_l (pc' := 14) rfl rfl rfl rfl rfl rfl ?_
  refine ir_l (pc' := 16) rfl rfl rfl rfl rfl rfl ?_
  refine ir_c_eq (pt := 31) (pc' := 19) rfl rfl rfl (fun c216 => ?_) (fun c216 => ?_)
  · have hW := hW.1 c216
    refine ir_l (pc' := 32) rfl rfl rfl rfl rfl rfl ?_
    refine ir_s (pc' := 34) rfl rfl rfl rfl rfl rfl ?_
    refine ir_w [(0, (2, ((582 : Nat) : Int))), (1, (0, l1)), (2, (0, l2)), (5, (0, z213))] ⟨rfl, rfl, rfl, rfl, trivial⟩ ?_
    obtain ⟨I9, r9, hI9, hB9⟩ := hW
    exact J34 l1 l1r l2 l2r I9 r9 hB9 _ z213 z213r s214 s214v hI9 (Nat.lt_succ_self _)
  · have hW := hW.2 c216
    refine ir_l (pc' := 20) rfl rfl rfl rfl rfl rfl ?_
    refine ir_l (pc' := 22) rfl rfl rfl rfl rfl rfl ?_
    have J418 : ∀ v417 : Int, iR v417 → ((Q v417 s214)) → ir gG rm_P L ys (d + 1) rm_p_X10_weigh (30, [], [(0, v417)], s214) (fun r : im_Re => ∃ z, r.1 = some (0, z) ∧ (vI r.2 ∧ iR z ∧ Q z r.2)) := by
      intro v417 v417r hW
      exact ir_iret rfl rfl ⟨_, rfl, s214v, v417r, hW⟩
    refine ir_c_ge (pt := 29) (pc' := 25) rfl rfl rfl (fun c217 => ?_) (fun c217 => ?_)
    · refine ir_k (pc' := 30) (v := (0, 1)) rfl rfl rfl (fun _ => rfl) ?_
      refine ir_w [] trivial ?_
      exact J418 1 (zR_i (Or.inr rfl)) (hW _ (by rw [if_pos c217]))
    · refine ir_k (pc' := 26) (v := (0, (-1))) rfl rfl rfl (fun _ => rfl) ?_
      refine ir_goto (pc' := 30) rfl rfl ?_
      refine ir_w [] trivial ?_
      exact J418 (-1) (⟨by decide, by decide⟩ : iR (-1)) (hW _ (by rw [if_neg (fun z => c217 z)]))
def W_joined_45 (K45 : Int × Int × Int × im_S → Prop) (l1 : Int) (l2 : Int) (l3 : Int) (l4 : Int) (l5 : Int) (l6 : Int) (l7 : Int) (l8 : Int) (l9 : Int) (l11 : Int) (l12 : Int) (s : im_S) (Q : Int → im_S → Prop) : Prop := ((iR (l8 + 1)) ∧ (((l8 + 1) < l12 → ((¬ (l4 = 0) → iR (-l11)) ∧ (∀ v203 : Int, v203 = (if l4 = 0 then l11 else (-l11)) → ((0 ≤ l5 ∧ l5 < 700000) ∧ (∀ s206, s206 = wpa s 597 l5 v203 → ((iR (l5 + l11)) ∧ (iR ((l5 + l11) + 1)) ∧ (∀ s209, s209 = wpf s206 24 ((l5 + l11) + 1) → (Q l5 s209)))))))) ∧ (¬ ((l8 + 1) < l12) → ((¬ (l6 < l12) → (0 ≤ (l1 + l12) ∧ (l1 + l12) < 700000)) ∧ (∀ v410 : Int, v410 = (if l6 < l12 then 0 else (wga s 597 (l1 + l12))) → ((lR (l9 + v410)) ∧ (l12 ≤ l7 → l3 = 0 → (0 ≤ (l2 + l12) ∧ (l2 + l12) < 700000)) ∧ (l12 ≤ l7 → l3 = 0 → iR (-(wga s 597 (l2 + l12)))) ∧ (l12 ≤ l7 → ¬ (l3 = 0) → (0 ≤ (l2 + l12) ∧ (l2 + l12) < 700000)) ∧ (∀ v613 : Int, v613 = (if l12 ≤ l7 then (if l3 = 0 then (-(wga s 597 (l2 + l12))) else (wga s 597 (l2 + l12))) else 0) → ((lR ((l9 + v410) + v613)) ∧ (∀ v817 : Int, v817 = (if 0 ≤ ((l9 + v410) + v613) then (if ((l9 + v410) + v613) < 1000000000 then 0 else 1) else (-1)) → ((lR (v817 * 1000000000)) ∧ (lR (((l9 + v410) + v613) - (v817 * 1000000000))) ∧ (iR (((l9 + v410) + v613) - (v817 * 1000000000))) ∧ (0 ≤ (l5 + l12) ∧ (l5 + l12) < 700000) ∧ (∀ s824, s824 = wpa s 597 (l5 + l12) (((l9 + v410) + v613) - (v817 * 1000000000)) → ((0 ≤ (l5 + l12) ∧ (l5 + l12) < 700000) ∧ (∀ v1028 : Int, v1028 = (if (wga s824 597 (l5 + l12)) = 0 then l11 else l12) → ((iR (l12 + 1)) ∧ (K45 (v817, v1028, (l12 + 1), s824))))))))))))))))
def W_joined (l1 : Int) (l2 : Int) (l3 : Int) (l4 : Int) (s : im_S) (Q : Int → im_S → Prop) : Prop := (W_limbs l1 s (fun z1033 s1032 => (W_limbs l2 s1032 (fun z1035 s1034 => (∀ v1236 : Int, v1236 = (if z1033 ≤ z1035 then z1035 else z1033) → (wloop (fun (K : Int × Int × Int × im_S → Prop) (a : Int × Int × Int × im_S) => W_joined_45 K l1 l2 l3 l4 (wgf s 24) z1033 z1035 v1236 a.1 a.2.1 a.2.2.1 a.2.2.2 Q) (0, 0, 1, s1034)))))))
set_option maxRecDepth 16384 in
theorem w_joined (L : Nat) (ys : Nat → Int32) (d : Nat) (s : im_S) (hv : vI s) (l1 : Int) (l1r : iR l1) (l2 : Int) (l2r : iR l2) (l3 : Int) (l3r : zR l3) (l4 : Int) (l4r : zR l4) (Q : Int → im_S → Prop) (hW : W_joined l1 l2 l3 l4 s Q) : icI gG rm_P L ys 0 (d + 2) 60 [(2, ((582 : Nat) : Int)), (0, l1), (0, l2), (0, l3), (0, l4)] s (fun z9 s9 => vI s9 ∧ iR z9 ∧ Q z9 s9) := by
  refine ic_startM (M := rm_p_X10_joined) om_X10_joined (Nat.le_of_ble_eq_true rfl) ?_
  refine ir_w [(0, (2, ((582 : Nat) : Int))), (1, (0, l1)), (2, (0, l2)), (3, (0, l3)), (4, (0, l4))] ⟨rfl, rfl, rfl, rfl, rfl, trivial⟩ ?_
  have J45 : ∀ (l1 : Int) (l1r : iR l1) (l2 : Int) (l2r : iR l2) (l3 : Int) (l3r : zR l3) (l4 : Int) (l4r : zR l4) (l5 : Int) (l5r : iR l5) (l6 : Int) (l6r : iR l6) (l7 : Int) (l7r : iR l7) (l8 : Int) (l8r : iR l8) (I45 : Int × Int × Int × im_S → Prop) (r45 : Int × Int × Int × im_S → Nat) (hB45 : ∀ a : Int × Int × Int × im_S, I45 a → W_joined_45 (fun b => I45 b ∧ r45 b < r45 a) l1 l2 l3 l4 l5 l6 l7 l8 a.1 a.2.1 a.2.2.1 a.2.2.2 Q), ∀ n45 : Nat, ∀ (l9 : Int) (l9r : lR l9) (l11 : Int) (l11r : iR l11) (l12 : Int) (l12r : iR l12) (s : im_S) (hv : vI s), I45 (l9, l11, l12, s) → r45 (l9, l11, l12, s) < n45 → ir gG rm_P L ys (d + 1) rm_p_X10_joined (45, [(0, (2, ((582 : Nat) : Int))), (1, (0, l1)), (2, (0, l2)), (3, (0, l3)), (4, (0, l4)), (5, (0, l5)), (6, (0, l6)), (7, (0, l7)), (8, (0, l8)), (9, (1, l9)), (11, (0, l11)), (12, (0, l12))], [], s) (fun r : im_Re => ∃ z, r.1 = some (0, z) ∧ (vI r.2 ∧ iR z ∧ Q z r.2)) := by
    intro l1 l1r l2 l2r l3 l3r l4 l4r l5 l5r l6 l6r l7 l7r l8 l8r I45 r45 hB45 n45
    induction n45 with
    | zero => intro l9 l9r l11 l11r l12 l12r s hv hI hr; exact absurd hr (Nat.not_lt_zero _)
    | succ n45 ih45 =>
      intro l9 l9r l11 l11r l12 l12r s hv hI hr45
      obtain ⟨t45, ht45⟩ : ∃ t45 : Int × Int × Int × im_S, t45 = (l9, l11, l12, s) := ⟨_, rfl⟩
      rw [← ht45] at hr45
      have hW : W_joined_45 (fun b => I45 b ∧ r45 b < r45 t45) l1 l2 l3 l4 l5 l6 l7 l8 l9 l11 l12 s Q := by have z := hB45 (l9, l11, l12, s) hI; rw [ht45]; exact z
      unfold W_joined_45 at hW
      obtain ⟨h1, hW⟩ := hW
      refine ir_l (pc' := 47) rfl rfl rfl rfl rfl rfl ?_
      refine ir_l (pc' := 49) rfl rfl rfl rfl rfl rfl ?_
      refine ir_k (pc' := 50) (v := (0, 1)) rfl rfl rfl (fun _ => rfl) ?_
      refine ir_add (pc' := 51) rfl rfl h1.1 h1.2 ?_
      refine ir_c_gt (pt := 196) (pc' := 54) rfl rfl rfl (fun c2 => ?_) (fun c2 => ?_)
      · have hW := hW.1 c2
        obtain ⟨h4, hW⟩ := hW
        refine ir_l (pc' := 197) rfl rfl rfl rfl rfl rfl ?_
        refine ir_vgr (pc' := 200) (c := 597) rfl rfl rfl rfl rfl hv ?_
        refine ir_l (pc' := 202) rfl rfl rfl rfl rfl rfl ?_
        refine ir_l (pc' := 204) rfl rfl rfl rfl rfl rfl ?_
        have J204 : ∀ v203 : Int, iR v203 → (((0 ≤ l5 ∧ l5 < 700000) ∧ (∀ s206, s206 = wpa s 597 l5 v203 → ((iR (l5 + l11)) ∧ (iR ((l5 + l11) + 1)) ∧ (∀ s209, s209 = wpf s206 24 ((l5 + l11) + 1) → (Q l5 s209)))))) → ir gG rm_P L ys (d + 1) rm_p_X10_joined (215, [(0, (2, ((582 : Nat) : Int))), (5, (0, l5)), (11, (0, l11))], [(0, v203), (0, l5), (2, ((597 : Nat) : Int))], s) (fun r : im_Re => ∃ z, r.1 = some (0, z) ∧ (vI r.2 ∧ iR z ∧ Q z r.2)) := by
          intro v203 v203r hW
          obtain ⟨h205, hW⟩ := hW
          refine ir_vis (pc' := 216) rfl rfl vg_597 rfl (Nat.le_of_ble_eq_true rfl) hv rfl h205 v203r (fun s206 s206e s206v => ?_)
          have hW := hW s206 s206e
          obtain ⟨h207, h208, hW⟩ := hW
          refine ir_l (pc' := 217) rfl rfl rfl rfl rfl rfl ?_
          refine ir_l (pc' := 219) rfl rfl rfl rfl rfl rfl ?_
          refine ir_l (pc' := 221) rfl rfl rfl rfl rfl rfl ?_
          refine ir_add (pc' := 222) rfl rfl h207.1 h207.2 ?_
          refine ir_k (pc' := 223) (v := (0, 1)) rfl rfl rfl (fun _ => rfl) ?_
          refine ir_add (pc' := 224) rfl rfl h208.1 h208.2 ?_
          refine ir_vpi (pc' := 227) rfl rfl rfl rfl rfl rfl rfl s206v h208 (fun s209 s209e s209v => ?_)
          have hW := hW s209 s209e
          refine ir_l (pc' := 229) rfl rfl rfl rfl rfl rfl ?_
          exact ir_iret rfl rfl ⟨_, rfl, s209v, l5r, hW⟩
        refine ir_z_eq (pt := 213) (pc' := 207) rfl rfl rfl (fun c3 => ?_) (fun c3 => ?_)
        · refine ir_l (pc' := 215) rfl rfl rfl rfl rfl rfl ?_
          refine ir_w [(0, (2, ((582 : Nat) : Int))), (5, (0, l5)), (11, (0, l11))] ⟨rfl, rfl, rfl, trivial⟩ ?_
          exact J204 l11 l11r (hW _ (by rw [if_pos c3]))
        · refine ir_l (pc' := 209) rfl rfl rfl rfl rfl rfl ?_
          refine ir_ineg (pc' := 210) rfl rfl (w_ng0 (h4 c3)) l11r.2 ?_
          refine ir_goto (pc' := 215) rfl rfl ?_
          refine ir_w [(0, (2, ((582 : Nat) : Int))), (5, (0, l5)), (11, (0, l11))] ⟨rfl, rfl, rfl, trivial⟩ ?_
          exact J204 (-l11) (h4 c3) (hW _ (by rw [if_neg (fun z => c3 z)]))
      · have hW := hW.2 c2
        obtain ⟨h212, hW⟩ := hW
        have h211 : ¬ (l6 < l12) → iR (l1 + l12) := fun g0_ => ⟨by have z := h212 g0_; omega, by have z := h212 g0_; omega⟩
        refine ir_l (pc' := 56) rfl rfl rfl rfl rfl rfl ?_
        refine ir_l (pc' := 58) rfl rfl rfl rfl rfl rfl ?_
        refine ir_l (pc' := 60) rfl rfl rfl rfl rfl rfl ?_
        have J411 : ∀ v410 : Int, iR v410 → (((lR (l9 + v410)) ∧ (l12 ≤ l7 → l3 = 0 → (0 ≤ (l2 + l12) ∧ (l2 + l12) < 700000)) ∧ (l12 ≤ l7 → l3 = 0 → iR (-(wga s 597 (l2 + l12)))) ∧ (l12 ≤ l7 → ¬ (l3 = 0) → (0 ≤ (l2 + l12) ∧ (l2 + l12) < 700000)) ∧ (∀ v613 : Int, v613 = (if l12 ≤ l7 then (if l3 = 0 then (-(wga s 597 (l2 + l12))) else (wga s 597 (l2 + l12))) else 0) → ((lR ((l9 + v410) + v613)) ∧ (∀ v817 : Int, v817 = (if 0 ≤ ((l9 + v410) + v613) then (if ((l9 + v410) + v613) < 1000000000 then 0 else 1) else (-1)) → ((lR (v817 * 1000000000)) ∧ (lR (((l9 + v410) + v613) - (v817 * 1000000000))) ∧ (iR (((l9 + v410) + v613) - (v817 * 1000000000))) ∧ (0 ≤ (l5 + l12) ∧ (l5 + l12) < 700000) ∧ (∀ s824, s824 = wpa s 597 (l5 + l12) (((l9 + v410) + v613) - (v817 * 1000000000)) → ((0 ≤ (l5 + l12) ∧ (l5 + l12) < 700000) ∧ (∀ v1028 : Int, v1028 = (if (wga s824 597 (l5 + l12)) = 0 then l11 else l12) → ((iR (l12 + 1)) ∧ ((fun b => I45 b ∧ r45 b < r45 t45) (v817, v1028, (l12 + 1), s824)))))))))))) → ir gG rm_P L ys (d + 1) rm_p_X10_joined (76, [(0, (2, ((582 : Nat) : Int))), (1, (0, l1)), (2, (0, l2)), (3, (0, l3)), (4, (0, l4)), (5, (0, l5)), (6, (0, l6)), (7, (0, l7)), (8, (0, l8)), (11, (0, l11)), (12, (0, l12))], [(0, v410), (1, l9)], s) (fun r : im_Re => ∃ z, r.1 = some (0, z) ∧ (vI r.2 ∧ iR z ∧ Q z r.2)) := by
          intro v410 v410r hW
          obtain ⟨h412, h416, h418, h420, hW⟩ := hW
          have h415 : l12 ≤ l7 → l3 = 0 → iR (l2 + l12) := fun g0_ g1_ => ⟨by have z := h416 g0_ g1_; omega, by have z := h416 g0_ g1_; omega⟩
          have h419 : l12 ≤ l7 → ¬ (l3 = 0) → iR (l2 + l12) := fun g0_ g1_ => ⟨by have z := h420 g0_ g1_; omega, by have z := h420 g0_ g1_; omega⟩
          refine ir_i2l (pc' := 77) rfl rfl v410r.1 v410r.2 ?_
          refine ir_ladd (pc' := 78) rfl rfl h412.1 h412.2 ?_
          refine ir_l (pc' := 80) rfl rfl rfl rfl rfl rfl ?_
          refine ir_l (pc' := 82) rfl rfl rfl rfl rfl rfl ?_
          have J614 : ∀ v613 : Int, iR v613 → (((lR ((l9 + v410) + v613)) ∧ (∀ v817 : Int, v817 = (if 0 ≤ ((l9 + v410) + v613) then (if ((l9 + v410) + v613) < 1000000000 then 0 else 1) else (-1)) → ((lR (v817 * 1000000000)) ∧ (lR (((l9 + v410) + v613) - (v817 * 1000000000))) ∧ (iR (((l9 + v410) + v613) - (v817 * 1000000000))) ∧ (0 ≤ (l5 + l12) ∧ (l5 + l12) < 700000) ∧ (∀ s824, s824 = wpa s 597 (l5 + l12) (((l9 + v410) + v613) - (v817 * 1000000000)) → ((0 ≤ (l5 + l12) ∧ (l5 + l12) < 700000) ∧ (∀ v1028 : Int, v1028 = (if (wga s824 597 (l5 + l12)) = 0 then l11 else l12) → ((iR (l12 + 1)) ∧ ((fun b => I45 b ∧ r45 b < r45 t45) (v817, v1028, (l12 + 1), s824)))))))))) → ir gG rm_P L ys (d + 1) rm_p_X10_joined (115, [(0, (2, ((582 : Nat) : Int))), (1, (0, l1)), (2, (0, l2)), (3, (0, l3)), (4, (0, l4)), (5, (0, l5)), (6, (0, l6)), (7, (0, l7)), (8, (0, l8)), (11, (0, l11)), (12, (0, l12))], [(0, v613), (1, (l9 + v410))], s) (fun r : im_Re => ∃ z, r.1 = some (0, z) ∧ (vI r.2 ∧ iR z ∧ Q z r.2)) := by
            intro v613 v613r hW
            obtain ⟨h615, hW⟩ := hW
            refine ir_i2l (pc' := 116) rfl rfl v613r.1 v613r.2 ?_
            refine ir_ladd (pc' := 117) rfl rfl h615.1 h615.2 ?_
            refine ir_s2 (pc' := 119) rfl rfl rfl rfl rfl rfl ?_
            refine ir_l (pc' := 121) rfl rfl rfl rfl rfl rfl ?_
            refine ir_k (pc' := 122) (v := (1, 0)) rfl rfl rfl (fun _ => rfl) ?_
            refine ir_lcmp (pc' := 123) rfl rfl h615.1 h615.2 (⟨by decide, by decide⟩ : lR 0).1 (⟨by decide, by decide⟩ : lR 0).2 (fun z616 z616c => ?_)
            have J818 : ∀ v817 : Int, lR v817 → (((lR (v817 * 1000000000)) ∧ (lR (((l9 + v410) + v613) - (v817 * 1000000000))) ∧ (iR (((l9 + v410) + v613) - (v817 * 1000000000))) ∧ (0 ≤ (l5 + l12) ∧ (l5 + l12) < 700000) ∧ (∀ s824, s824 = wpa s 597 (l5 + l12) (((l9 + v410) + v613) - (v817 * 1000000000)) → ((0 ≤ (l5 + l12) ∧ (l5 + l12) < 700000) ∧ (∀ v1028 : Int, v1028 = (if (wga s824 597 (l5 + l12)) = 0 then l11 else l12) → ((iR (l12 + 1)) ∧ ((fun b => I45 b ∧ r45 b < r45 t45) (v817, v1028, (l12 + 1), s824)))))))) → ir gG rm_P L ys (d + 1) rm_p_X10_joined (146, [(0, (2, ((582 : Nat) : Int))), (1, (0, l1)), (2, (0, l2)), (3, (0, l3)), (4, (0, l4)), (5, (0, l5)), (6, (0, l6)), (7, (0, l7)), (8, (0, l8)), (11, (0, l11)), (12, (0, l12)), (13, (1, ((l9 + v410) + v613)))], [(1, v817)], s) (fun r : im_Re => ∃ z, r.1 = some (0, z) ∧ (vI r.2 ∧ iR z ∧ Q z r.2)) := by
              intro v817 v817r hW
              obtain ⟨h820, h821, h822, h823, hW⟩ := hW
              have h819 : iR (l5 + l12) := ⟨by omega, by omega⟩
              refine ir_s2 (pc' := 148) rfl rfl rfl rfl rfl rfl ?_
              refine ir_l (pc' := 149) rfl rfl rfl rfl rfl rfl ?_
              refine ir_vgr (pc' := 152) (c := 597) rfl rfl rfl rfl rfl hv ?_
              refine ir_l (pc' := 154) rfl rfl rfl rfl rfl rfl ?_
              refine ir_l (pc' := 156) rfl rfl rfl rfl rfl rfl ?_
              refine ir_add (pc' := 157) rfl rfl h819.1 h819.2 ?_
              refine ir_l (pc' := 159) rfl rfl rfl rfl rfl rfl ?_
              refine ir_l (pc' := 161) rfl rfl rfl rfl rfl rfl ?_
              refine ir_k (pc' := 164) (v := (1, 1000000000)) rfl rfl rfl (fun _ => rfl) ?_
              refine ir_lmul (pc' := 165) rfl rfl h820.1 h820.2 ?_
              refine ir_lsub (pc' := 166) rfl rfl h821.1 h821.2 ?_
              refine ir_l2i (pc' := 167) rfl rfl h822.1 h822.2 ?_
              refine ir_vis (pc' := 168) rfl rfl vg_597 rfl (Nat.le_of_ble_eq_true rfl) hv rfl h823 h822 (fun s824 s824e s824v => ?_)
              have hW := hW s824 s824e
              obtain ⟨h826, hW⟩ := hW
              have h825 : iR (l5 + l12) := ⟨by omega, by omega⟩
              refine ir_l (pc' := 169) rfl rfl rfl rfl rfl rfl ?_
              refine ir_vgr (pc' := 172) (c := 597) rfl rfl rfl rfl rfl s824v ?_
              refine ir_l (pc' := 174) rfl rfl rfl rfl rfl rfl ?_
              refine ir_l (pc' := 176) rfl rfl rfl rfl rfl rfl ?_
              refine ir_add (pc' := 177) rfl rfl h825.1 h825.2 ?_
              refine ir_via (pc' := 178) rfl rfl vg_597 rfl (Nat.le_of_ble_eq_true rfl) s824v rfl h826 (fun r827 => ?_)
              have J1029 : ∀ v1028 : Int, iR v1028 → (((iR (l12 + 1)) ∧ ((fun b => I45 b ∧ r45 b < r45 t45) (v817, v1028, (l12 + 1), s824)))) → ir gG rm_P L ys (d + 1) rm_p_X10_joined (188, [(0, (2, ((582 : Nat) : Int))), (1, (0, l1)), (2, (0, l2)), (3, (0, l3)), (4, (0, l4)), (5, (0, l5)), (6, (0, l6)), (7, (0, l7)), (8, (0, l8)), (9, (1, v817)), (12, (0, l12))], [(0, v1028)], s824) (fun r : im_Re => ∃ z, r.1 = some (0, z) ∧ (vI r.2 ∧ iR z ∧ Q z r.2)) := by
                intro v1028 v1028r hW
                obtain ⟨h1030, hW⟩ := hW
                refine ir_s (pc' := 190) rfl rfl rfl rfl rfl rfl ?_
                refine ir_inc (pc' := 193) rfl rfl rfl rfl rfl h1030.1 h1030.2 ?_
                refine ir_goto (pc' := 45) rfl rfl ?_
                refine ir_w [(0, (2, ((582 : Nat) : Int))), (1, (0, l1)), (2, (0, l2)), (3, (0, l3)), (4, (0, l4)), (5, (0, l5)), (6, (0, l6)), (7, (0, l7)), (8, (0, l8)), (9, (1, v817)), (11, (0, v1028)), (12, (0, (l12 + 1)))] ⟨rfl, rfl, rfl, rfl, rfl, rfl, rfl, rfl, rfl, rfl, rfl, rfl, trivial⟩ ?_
                exact ih45 v817 v817r v1028 v1028r (l12 + 1) h1030 s824 s824v hW.1 (Nat.lt_of_lt_of_le hW.2 (Nat.le_of_lt_succ hr45))
              refine ir_z_eq (pt := 186) (pc' := 181) rfl rfl rfl (fun c828 => ?_) (fun c828 => ?_)
              · refine ir_l (pc' := 188) rfl rfl rfl rfl rfl rfl ?_
                refine ir_w [(0, (2, ((582 : Nat) : Int))), (1, (0, l1)), (2, (0, l2)), (3, (0, l3)), (4, (0, l4)), (5, (0, l5)), (6, (0, l6)), (7, (0, l7)), (8, (0, l8)), (9, (1, v817)), (12, (0, l12))] ⟨rfl, rfl, rfl, rfl, rfl, rfl, rfl, rfl, rfl, rfl, rfl, trivial⟩ ?_
                exact J1029 l11 l11r (hW _ (by rw [if_pos c828]))
              · refine ir_l (pc' := 183) rfl rfl rfl rfl rfl rfl ?_
                refine ir_goto (pc' := 188) rfl rfl ?_
                refine ir_w [(0, (2, ((582 : Nat) : Int))), (1, (0, l1)), (2, (0, l2)), (3, (0, l3)), (4, (0, l4)), (5, (0, l5)), (6, (0, l6)), (7, (0, l7)), (8, (0, l8)), (9, (1, v817)), (12, (0, l12))] ⟨rfl, rfl, rfl, rfl, rfl, rfl, rfl, rfl, rfl, rfl, rfl, trivial⟩ ?_
                exact J1029 l12 l12r (hW _ (by rw [if_neg (fun z => c828 z)]))
            refine ir_z_ge (pt := 132) (pc' := 126) rfl rfl rfl (fun c617 => ?_) (fun c617 => ?_)
            · have c617 : 0 ≤ ((l9 + v410) + v613) := by omega
              refine ir_l (pc' := 134) rfl rfl rfl rfl rfl rfl ?_
              refine ir_k (pc' := 137) (v := (1, 1000000000)) rfl rfl rfl (fun _ => rfl) ?_
              refine ir_lcmp (pc' := 138) rfl rfl h615.1 h615.2 (⟨by decide, by decide⟩ : lR 1000000000).1 (⟨by decide, by decide⟩ : lR 1000000000).2 (fun z618 z618c => ?_)
              refine ir_z_lt (pt := 145) (pc' := 141) rfl rfl rfl (fun c619 => ?_) (fun c619 => ?_)
              · have c619 : ((l9 + v410) + v613) < 1000000000 := by omega
                refine ir_k (pc' := 146) (v := (1, 0)) rfl rfl rfl (fun _ => rfl) ?_
                refine ir_w [(0, (2, ((582 : Nat) : Int))), (1, (0, l1)), (2, (0, l2)), (3, (0, l3)), (4, (0, l4)), (5, (0, l5)), (6, (0, l6)), (7, (0, l7)), (8, (0, l8)), (11, (0, l11)), (12, (0, l12)), (13, (1, ((l9 + v410) + v613)))] ⟨rfl, rfl, rfl, rfl, rfl, rfl, rfl, rfl, rfl, rfl, rfl, rfl, trivial⟩ ?_
                exact J818 0 (⟨by decide, by decide⟩ : lR 0) (hW _ (by rw [if_pos c617, if_pos c619]))
              · have c619 : ¬ (((l9 + v410) + v613) < 1000000000) := by omega
                refine ir_k (pc' := 142) (v := (1, 1)) rfl rfl rfl (fun _ => rfl) ?_
                refine ir_goto (pc' := 146) rfl rfl ?_
                refine ir_w [(0, (2, ((582 : Nat) : Int))), (1, (0, l1)), (2, (0, l2)), (3, (0, l3)), (4, (0, l4)), (5, (0, l5)), (6, (0, l6)), (7, (0, l7)), (8, (0, l8)), (11, (0, l11)), (12, (0, l12)), (13, (1, ((l9 + v410) + v613)))] ⟨rfl, rfl, rfl, rfl, rfl, rfl, rfl, rfl, rfl, rfl, rfl, rfl, trivial⟩ ?_
                exact J818 1 (⟨by decide, by decide⟩ : lR 1) (hW _ (by rw [if_pos c617, if_neg (fun z => c619 z)]))
            · have c617 : ¬ (0 ≤ ((l9 + v410) + v613)) := by omega
              refine ir_k (pc' := 129) (v := (1, (-1))) rfl rfl rfl (fun _ => rfl) ?_
              refine ir_goto (pc' := 146) rfl rfl ?_
              refine ir_w [(0, (2, ((582 : Nat) : Int))), (1, (0, l1)), (2, (0, l2)), (3, (0, l3)), (4, (0, l4)), (5, (0, l5)), (6, (0, l6)), (7, (0, l7)), (8, (0, l8)), (11, (0, l11)), (12, (0, l12)), (13, (1, ((l9 + v410) + v613)))] ⟨rfl, rfl, rfl, rfl, rfl, rfl, rfl, rfl, rfl, rfl, rfl, rfl, trivial⟩ ?_
              exact J818 (-1) (⟨by decide, by decide⟩ : lR (-1)) (hW _ (by rw [if_neg (fun z => c617 z)]))
          refine ir_c_le (pt := 89) (pc' := 85) rfl rfl rfl (fun c413 => ?_) (fun c413 => ?_)
          · refine ir_l (pc' := 90) rfl rfl rfl rfl rfl rfl ?_
            refine ir_z_eq (pt := 105) (pc' := 93) rfl rfl rfl (fun c414 => ?_) (fun c414 => ?_)
            · refine ir_l (pc' := 106) rfl rfl rfl rfl rfl rfl ?_
              refine ir_vgr (pc' := 109) (c := 597) rfl rfl rfl rfl rfl hv ?_
              refine ir_l (pc' := 110) rfl rfl rfl rfl rfl rfl ?_
              refine ir_l (pc' := 112) rfl rfl rfl rfl rfl rfl ?_
              refine ir_add (pc' := 113) rfl rfl (h415 c413 c414).1 (h415 c413 c414).2 ?_
              refine ir_via (pc' := 114) rfl rfl vg_597 rfl (Nat.le_of_ble_eq_true rfl) hv rfl (h416 c413 c414) (fun r417 => ?_)
              refine ir_ineg (pc' := 115) rfl rfl (w_ng0 (h418 c413 c414)) r417.2 ?_
              refine ir_w [(0, (2, ((582 : Nat) : Int))), (1, (0, l1)), (2, (0, l2)), (3, (0, l3)), (4, (0, l4)), (5, (0, l5)), (6, (0, l6)), (7, (0, l7)), (8, (0, l8)), (11, (0, l11)), (12, (0, l12))] ⟨rfl, rfl, rfl, rfl, rfl, rfl, rfl, rfl, rfl, rfl, rfl, trivial⟩ ?_
              exact J614 (-(wga s 597 (l2 + l12))) (h418 c413 c414) (hW _ (by rw [if_pos c413, if_pos c414]))
            · refine ir_l (pc' := 94) rfl rfl rfl rfl rfl rfl ?_
              refine ir_vgr (pc' := 97) (c := 597) rfl rfl rfl rfl rfl hv ?_
              refine ir_l (pc' := 98) rfl rfl rfl rfl rfl rfl ?_
              refine ir_l (pc' := 100) rfl rfl rfl rfl rfl rfl ?_
              refine ir_add (pc' := 101) rfl rfl (h419 c413 c414).1 (h419 c413 c414).2 ?_
              refine ir_via (pc' := 102) rfl rfl vg_597 rfl (Nat.le_of_ble_eq_true rfl) hv rfl (h420 c413 c414) (fun r421 => ?_)
              refine ir_goto (pc' := 115) rfl rfl ?_
              refine ir_w [(0, (2, ((582 : Nat) : Int))), (1, (0, l1)), (2, (0, l2)), (3, (0, l3)), (4, (0, l4)), (5, (0, l5)), (6, (0, l6)), (7, (0, l7)), (8, (0, l8)), (11, (0, l11)), (12, (0, l12))] ⟨rfl, rfl, rfl, rfl, rfl, rfl, rfl, rfl, rfl, rfl, rfl, trivial⟩ ?_
              exact J614 (wga s 597 (l2 + l12)) r421 (hW _ (by rw [if_pos c413, if_neg (fun z => c414 z)]))
          · refine ir_k (pc' := 86) (v := (0, 0)) rfl rfl rfl (fun _ => rfl) ?_
            refine ir_goto (pc' := 115) rfl rfl ?_
            refine ir_w [(0, (2, ((582 : Nat) : Int))), (1, (0, l1)), (2, (0, l2)), (3, (0, l3)), (4, (0, l4)), (5, (0, l5)), (6, (0, l6)), (7, (0, l7)), (8, (0, l8)), (11, (0, l11)), (12, (0, l12))] ⟨rfl, rfl, rfl, rfl, rfl, rfl, rfl, rfl, rfl, rfl, rfl, trivial⟩ ?_
            exact J614 0 (zR_i (Or.inl rfl)) (hW _ (by rw [if_neg (fun z => c413 z)]))
        refine ir_c_gt (pt := 75) (pc' := 63) rfl rfl rfl (fun c210 => ?_) (fun c210 => ?_)
        · refine ir_k (pc' := 76) (v := (0, 0)) rfl rfl rfl (fun _ => rfl) ?_
          refine ir_w [(0, (2, ((582 : Nat) : Int))), (1, (0, l1)), (2, (0, l2)), (3, (0, l3)), (4, (0, l4)), (5, (0, l5)), (6, (0, l6)), (7, (0, l7)), (8, (0, l8)), (11, (0, l11)), (12, (0, l12))] ⟨rfl, rfl, rfl, rfl, rfl, rfl, rfl, rfl, rfl, rfl, rfl, trivial⟩ ?_
          exact J411 0 (zR_i (Or.inl rfl)) (hW _ (by rw [if_pos c210]))
        · refine ir_l (pc' := 64) rfl rfl rfl rfl rfl rfl ?_
          refine ir_vgr (pc' := 67) (c := 597) rfl rfl rfl rfl rfl hv ?_
          refine ir_l (pc' := 68) rfl rfl rfl rfl rfl rfl ?_
          refine ir_l (pc' := 70) rfl rfl rfl rfl rfl rfl ?_
          refine ir_add (pc' := 71) rfl rfl (h211 c210).1 (h211 c210).2 ?_
          refine ir_via (pc' := 72) rfl rfl vg_597 rfl (Nat.le_of_ble_eq_true rfl) hv rfl (h212 c210) (fun r213 => ?_)
          refine ir_goto (pc' := 76) rfl rfl ?_
          refine ir_w [(0, (2, ((582 : Nat) : Int))), (1, (0, l1)), (2, (0, l2)), (3, (0, l3)), (4, (0, l4)), (5, (0, l5)), (6, (0, l6)), (7, (0, l7)), (8, (0, l8)), (11, (0, l11)), (12, (0, l12))] ⟨rfl, rfl, rfl, rfl, rfl, rfl, rfl, rfl, rfl, rfl, rfl, trivial⟩ ?_
          exact J411 (wga s 597 (l1 + l12)) r213 (hW _ (by rw [if_neg (fun z => c210 z)]))
  unfold W_joined at hW
  refine ir_l (pc' := 1) rfl rfl rfl rfl rfl rfl ?_
  refine ir_vgi (pc' := 4) rfl rfl rfl rfl rfl hv (fun r1031 => ?_)
  refine ir_s (pc' := 6) rfl rfl rfl rfl rfl rfl ?_
  refine ir_l (pc' := 7) rfl rfl rfl rfl rfl rfl ?_
  refine ir_l (pc' := 8) rfl rfl rfl rfl rfl rfl ?_
  refine ir_cVI (pc' := 11) rfl rfl rfl rfl rfl (Nat.le_of_ble_eq_true rfl) oo_X10_limbs vg_582 (w_limbs L ys d s hv l1 l1r _ hW) (fun z1033 s1032 hr => ?_)
  obtain ⟨s1032v, z1033r, hW⟩ := hr
  refine ir_s (pc' := 13) rfl rfl rfl rfl rfl rfl ?_
  refine ir_l (pc' := 14) rfl rfl rfl rfl rfl rfl ?_
  refine ir_l (pc' := 15) rfl rfl rfl rfl rfl rfl ?_
  refine ir_cVI (pc' := 18) rfl rfl rfl rfl rfl (Nat.le_of_ble_eq_true rfl) oo_X10_limbs vg_582 (w_limbs L ys d s1032 s1032v l2 l2r _ hW) (fun z1035 s1034 hr => ?_)
  obtain ⟨s1034v, z1035r, hW⟩ := hr
  refine ir_s (pc' := 20) rfl rfl rfl rfl rfl rfl ?_
  refine ir_l (pc' := 22) rfl rfl rfl rfl rfl rfl ?_
  refine ir_l (pc' := 24) rfl rfl rfl rfl rfl rfl ?_
  have J1237 : ∀ v1236 : Int, iR v1236 → ((wloop (fun (K : Int × Int × Int × im_S → Prop) (a : Int × Int × Int × im_S) => W_joined_45 K l1 l2 l3 l4 (wgf s 24) z1033 z1035 v1236 a.1 a.2.1 a.2.2.1 a.2.2.2 Q) (0, 0, 1, s1034))) → ir gG rm_P L ys (d + 1) rm_p_X10_joined (34, [(0, (2, ((582 : Nat) : Int))), (1, (0, l1)), (2, (0, l2)), (3, (0, l3)), (4, (0, l4)), (5, (0, (wgf s 24))), (6, (0, z1033)), (7, (0, z1035))], [(0, v1236)], s1034) (fun r : im_Re => ∃ z, r.1 = some (0, z) ∧ (vI r.2 ∧ iR z ∧ Q z r.2)) := by
    intro v1236 v1236r hW
    refine ir_s (pc' := 36) rfl rfl rfl rfl rfl rfl ?_
    refine ir_k (pc' := 37) (v := (1, 0)) rfl rfl rfl (fun _ => rfl) ?_
    refine ir_s2 (pc' := 39) rfl rfl rfl rfl rfl rfl ?_
    refine ir_k (pc' := 40) (v := (0, 0)) rfl rfl rfl (fun _ => rfl) ?_
    refine ir_s (pc' := 42) rfl rfl rfl rfl rfl rfl ?_
    refine ir_k (pc' := 43) (v := (0, 1)) rfl rfl rfl (fun _ => rfl) ?_
    refine ir_s (pc' := 45) rfl rfl rfl rfl rfl rfl ?_
    refine ir_w [(0, (2, ((582 : Nat) : Int))), (1, (0, l1)), (2, (0, l2)), (3, (0, l3)), (4, (0, l4)), (5, (0, (wgf s 24))), (6, (0, z1033)), (7, (0, z1035)), (8, (0, v1236)), (9, (1, 0)), (11, (0, 0)), (12, (0, 1))] ⟨rfl, rfl, rfl, rfl, rfl, rfl, rfl, rfl, rfl, rfl, rfl, rfl, trivial⟩ ?_
    obtain ⟨I9, r9, hI9, hB9⟩ := hW
    exact J45 l1 l1r l2 l2r l3 l3r l4 l4r (wgf s 24) r1031 z1033 z1033r z1035 z1035r v1236 v1236r I9 r9 hB9 _ 0 (⟨by decide, by decide⟩ : lR 0) 0 (zR_i (Or.inl rfl)) 1 (zR_i (Or.inr rfl)) s1034 s1034v hI9 (Nat.lt_succ_self _)
  refine ir_c_le (pt := 32) (pc' := 27) rfl rfl rfl (fun c1036 => ?_) (fun c1036 => ?_)
  · refine ir_l (pc' := 34) rfl rfl rfl rfl rfl rfl ?_
    refine ir_w [(0, (2, ((582 : Nat) : Int))), (1, (0, l1)), (2, (0, l2)), (3, (0, l3)), (4, (0, l4)), (5, (0, (wgf s 24))), (6, (0, z1033)), (7, (0, z1035))] ⟨rfl, rfl, rfl, rfl, rfl, rfl, rfl, rfl, trivial⟩ ?_
    exact J1237 z1035 z1035r (hW _ (by rw [if_pos c1036]))
  · refine ir_l (pc' := 29) rfl rfl rfl rfl rfl rfl ?_
    refine ir_goto (pc' := 34) rfl rfl ?_
    refine ir_w [(0, (2, ((582 : Nat) : Int))), (1, (0, l1)), (2, (0, l2)), (3, (0, l3)), (4, (0, l4)), (5, (0, (wgf s 24))), (6, (0, z1033)), (7, (0, z1035))] ⟨rfl, rfl, rfl, rfl, rfl, rfl, rfl, rfl, trivial⟩ ?_
    exact J1237 z1033 z1033r (hW _ (by rw [if_neg (fun z => c1036 z)]))
