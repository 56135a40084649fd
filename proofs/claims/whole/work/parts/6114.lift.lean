/-! THE REFERENCE LIFTED, by program -/
def W_load (s : im_S) (Q : Int → im_S → Prop) : Prop := (∀ s1, s1 = wpf s 2 0 → (∀ s2, s2 = wpf s1 3 (-2) → (∀ s3, s3 = wpf s2 4 0 → (∀ s4, s4 = wpf s3 5 0 → (W_readText s4 (fun s5 => (∀ s7, s7 = wpf s5 1 0 → (W_good s7 (fun z9 s8 => ((¬ (z9 = 0) → (∀ s11, s11 = wpf s8 5 1 → (W_findAll s11 (fun s12 => (Q 0 s12))))) ∧ (z9 = 0 → (Q (wgf s8 2) s8))))))))))))
set_option maxRecDepth 16384 in
theorem w_load (L : Nat) (ys : Nat → Int32) (d : Nat) (s : im_S) (hv : vI s) (Q : Int → im_S → Prop) (hW : W_load s Q) : icI gG rm_P L ys 0 (d + 12) 65 [(2, ((582 : Nat) : Int))] s (fun z9 s9 => vI s9 ∧ iR z9 ∧ Q z9 s9) := by
  refine ic_startM (M := rm_p_X10_load) om_X10_load (Nat.le_of_ble_eq_true rfl) ?_
  refine ir_w [(0, (2, ((582 : Nat) : Int)))] ⟨rfl, trivial⟩ ?_
  unfold W_load at hW
  refine ir_l (pc' := 1) rfl rfl rfl rfl rfl rfl ?_
  refine ir_k (pc' := 2) (v := (0, 0)) rfl rfl rfl (fun _ => rfl) ?_
  refine ir_vpi (pc' := 5) rfl rfl rfl rfl rfl rfl rfl hv (zR_i (Or.inl rfl)) (fun s1 s1e s1v => ?_)
  have hW := hW s1 s1e
  refine ir_l (pc' := 6) rfl rfl rfl rfl rfl rfl ?_
  refine ir_k (pc' := 8) (v := (0, (-2))) rfl rfl rfl (fun _ => rfl) ?_
  refine ir_vpi (pc' := 11) rfl rfl rfl rfl rfl rfl rfl s1v (⟨by decide, by decide⟩ : iR (-2)) (fun s2 s2e s2v => ?_)
  have hW := hW s2 s2e
  refine ir_l (pc' := 12) rfl rfl rfl rfl rfl rfl ?_
  refine ir_k (pc' := 13) (v := (0, 0)) rfl rfl rfl (fun _ => rfl) ?_
  refine ir_vpi (pc' := 16) rfl rfl rfl rfl rfl rfl rfl s2v (zR_i (Or.inl rfl)) (fun s3 s3e s3v => ?_)
  have hW := hW s3 s3e
  refine ir_l (pc' := 17) rfl rfl rfl rfl rfl rfl ?_
  refine ir_k (pc' := 18) (v := (0, 0)) rfl rfl rfl (fun _ => rfl) ?_
  refine ir_vpz (pc' := 21) rfl rfl rfl rfl rfl rfl rfl s3v (Or.inl rfl) (fun s4 s4e s4v => ?_)
  have hW := hW s4 s4e
  refine ir_l (pc' := 22) rfl rfl rfl rfl rfl rfl ?_
  refine ir_cVV (pc' := 25) rfl rfl rfl rfl rfl (Nat.le_of_ble_eq_true rfl) oo_X10_readText vg_582 (w_readText L ys (d + 3) s4 s4v  _ hW) (fun s5 hr => ?_)
  obtain ⟨s5v, hW⟩ := hr
  refine ir_l (pc' := 26) rfl rfl rfl rfl rfl rfl ?_
  refine ir_k (pc' := 27) (v := (0, 0)) rfl rfl rfl (fun _ => rfl) ?_
  refine ir_vpi (pc' := 30) rfl rfl rfl rfl rfl rfl rfl s5v (zR_i (Or.inl rfl)) (fun s7 s7e s7v => ?_)
  have hW := hW s7 s7e
  refine ir_l (pc' := 31) rfl rfl rfl rfl rfl rfl ?_
  refine ir_cVI (pc' := 34) rfl rfl rfl rfl rfl (Nat.le_of_ble_eq_true rfl) oo_X10_good vg_582 (w_good L ys (d + 10) s7 s7v  _ hW) (fun z9 s8 hr => ?_)
  obtain ⟨s8v, z9r, hW⟩ := hr
  refine ir_z_ne (pt := 42) (pc' := 37) rfl rfl rfl (fun c10 => ?_) (fun c10 => ?_)
  · have hW := hW.1 c10
    refine ir_l (pc' := 43) rfl rfl rfl rfl rfl rfl ?_
    refine ir_k (pc' := 44) (v := (0, 1)) rfl rfl rfl (fun _ => rfl) ?_
    refine ir_vpz (pc' := 47) rfl rfl rfl rfl rfl rfl rfl s8v (Or.inr rfl) (fun s11 s11e s11v => ?_)
    have hW := hW s11 s11e
    refine ir_l (pc' := 48) rfl rfl rfl rfl rfl rfl ?_
    refine ir_cVV (pc' := 51) rfl rfl rfl rfl rfl (Nat.le_of_ble_eq_true rfl) oo_X10_findAll vg_582 (w_findAll L ys d s11 s11v  _ hW) (fun s12 hr => ?_)
    obtain ⟨s12v, hW⟩ := hr
    refine ir_k (pc' := 52) (v := (0, 0)) rfl rfl rfl (fun _ => rfl) ?_
    exact ir_iret rfl rfl ⟨_, rfl, s12v, (zR_i (Or.inl rfl)), hW⟩
  · have hW := hW.2 c10
    refine ir_l (pc' := 38) rfl rfl rfl rfl rfl rfl ?_
    refine ir_vgi (pc' := 41) rfl rfl rfl rfl rfl s8v (fun r14 => ?_)
    exact ir_iret rfl rfl ⟨_, rfl, s8v, r14, hW⟩
def W_mostBelow (l1 : Int) (l2 : Int) (s : im_S) (Q : Int → im_S → Prop) : Prop := (W_floorOf l1 l2 s (fun z2 s1 => ((0 ≤ l1 ∧ l1 < 90) ∧ (¬ ((wga s1 609 l1) ≤ 0) → lR ((wga s1 608 l1) * l2)) ∧ (¬ ((wga s1 609 l1) ≤ 0) → 0 < (wga s1 609 l1)) ∧ (¬ ((wga s1 609 l1) ≤ 0) → (((wga s1 608 l1) * l2).tmod (wga s1 609 l1)) = 0 → lR (z2 - 1)) ∧ (∀ v206 : Int, v206 = (if (wga s1 609 l1) ≤ 0 then z2 else (if ¬ ((((wga s1 608 l1) * l2).tmod (wga s1 609 l1)) = 0) then z2 else (z2 - 1))) → (Q v206 s1)))))
set_option maxRecDepth 16384 in
theorem w_mostBelow (L : Nat) (ys : Nat → Int32) (d : Nat) (s : im_S) (hv : vI s) (l1 : Int) (l1r : iR l1) (l2 : Int) (l2r : lR l2) (Q : Int → im_S → Prop) (hW : W_mostBelow l1 l2 s Q) : icI gG rm_P L ys 1 (d + 8) 70 [(2, ((582 : Nat) : Int)), (0, l1), (1, l2)] s (fun z9 s9 => vI s9 ∧ lR z9 ∧ Q z9 s9) := by
  refine ic_startM (M := rm_p_X10_mostBelow) om_X10_mostBelow (Nat.le_of_ble_eq_true rfl) ?_
  refine ir_w [(0, (2, ((582 : Nat) : Int))), (1, (0, l1)), (2, (1, l2))] ⟨rfl, rfl, rfl, trivial⟩ ?_
  unfold W_mostBelow at hW
  refine ir_l (pc' := 1) rfl rfl rfl rfl rfl rfl ?_
  refine ir_l (pc' := 2) rfl rfl rfl rfl rfl rfl ?_
  refine ir_l (pc' := 3) rfl rfl rfl rfl rfl rfl ?_
  refine ir_cVI (pc' := 6) rfl rfl rfl rfl rfl (Nat.le_of_ble_eq_true rfl) oo_X10_floorOf vg_582 (w_floorOf L ys d s hv l1 l1r l2 l2r _ hW) (fun z2 s1 hr => ?_)
  obtain ⟨s1v, z2r, hW⟩ := hr
  obtain ⟨h3, h8, h10, h13, hW⟩ := hW
  refine ir_s2 (pc' := 8) rfl rfl rfl rfl rfl rfl ?_
  refine ir_l (pc' := 9) rfl rfl rfl rfl rfl rfl ?_
  refine ir_vgr (pc' := 12) (c := 609) rfl rfl rfl rfl rfl s1v ?_
  refine ir_l (pc' := 13) rfl rfl rfl rfl rfl rfl ?_
  refine ir_vla (pc' := 14) rfl rfl vg_609 rfl (Nat.le_of_ble_eq_true rfl) s1v rfl h3 (fun r4 => ?_)
  refine ir_k (pc' := 15) (v := (1, 0)) rfl rfl rfl (fun _ => rfl) ?_
  refine ir_lcmp (pc' := 16) rfl rfl r4.1 r4.2 (⟨by decide, by decide⟩ : lR 0).1 (⟨by decide, by decide⟩ : lR 0).2 (fun z5 z5c => ?_)
  have J207 : ∀ v206 : Int, lR v206 → ((Q v206 s1)) → ir gG rm_P L ys (d + 7) rm_p_X10_mostBelow (48, [], [(1, v206)], s1) (fun r : im_Re => ∃ z, r.1 = some (1, z) ∧ (vI r.2 ∧ lR z ∧ Q z r.2)) := by
    intro v206 v206r hW
    exact ir_lret rfl rfl ⟨_, rfl, s1v, v206r, hW⟩
  refine ir_z_le (pt := 46) (pc' := 19) rfl rfl rfl (fun c6 => ?_) (fun c6 => ?_)
  · have c6 : (wga s1 609 l1) ≤ 0 := by omega
    refine ir_l (pc' := 48) rfl rfl rfl rfl rfl rfl ?_
    refine ir_w [] trivial ?_
    exact J207 z2 z2r (hW _ (by rw [if_pos c6]))
  · have c6 : ¬ ((wga s1 609 l1) ≤ 0) := by omega
    refine ir_l (pc' := 20) rfl rfl rfl rfl rfl rfl ?_
    refine ir_vgr (pc' := 23) (c := 608) rfl rfl rfl rfl rfl s1v ?_
    refine ir_l (pc' := 24) rfl rfl rfl rfl rfl rfl ?_
    refine ir_vla (pc' := 25) rfl rfl vg_608 rfl (Nat.le_of_ble_eq_true rfl) s1v rfl h3 (fun r7 => ?_)
    refine ir_l (pc' := 26) rfl rfl rfl rfl rfl rfl ?_
    refine ir_lmul (pc' := 27) rfl rfl (h8 c6).1 (h8 c6).2 ?_
    refine ir_l (pc' := 28) rfl rfl rfl rfl rfl rfl ?_
    refine ir_vgr (pc' := 31) (c := 609) rfl rfl rfl rfl rfl s1v ?_
    refine ir_l (pc' := 32) rfl rfl rfl rfl rfl rfl ?_
    refine ir_vla (pc' := 33) rfl rfl vg_609 rfl (Nat.le_of_ble_eq_true rfl) s1v rfl h3 (fun r9 => ?_)
    refine ir_lrem (pc' := 34) rfl rfl (h8 c6).1 (h8 c6).2 (h10 c6) r9.2 ?_
    refine ir_k (pc' := 35) (v := (1, 0)) rfl rfl rfl (fun _ => rfl) ?_
    refine ir_lcmp (pc' := 36) rfl rfl (w_tmod1 (h8 c6) (h10 c6) r9).1 (w_tmod1 (h8 c6) (h10 c6) r9).2 (⟨by decide, by decide⟩ : lR 0).1 (⟨by decide, by decide⟩ : lR 0).2 (fun z11 z11c => ?_)
    refine ir_z_ne (pt := 46) (pc' := 39) rfl rfl rfl (fun c12 => ?_) (fun c12 => ?_)
    · have c12 : ¬ ((((wga s1 608 l1) * l2).tmod (wga s1 609 l1)) = 0) := by omega
      refine ir_l (pc' := 48) rfl rfl rfl rfl rfl rfl ?_
      refine ir_w [] trivial ?_
      exact J207 z2 z2r (hW _ (by rw [if_neg (fun z => c6 z), if_pos c12]))
    · have c12 : (((wga s1 608 l1) * l2).tmod (wga s1 609 l1)) = 0 := by omega
      refine ir_l (pc' := 41) rfl rfl rfl rfl rfl rfl ?_
      refine ir_k (pc' := 42) (v := (1, 1)) rfl rfl rfl (fun _ => rfl) ?_
      refine ir_lsub (pc' := 43) rfl rfl (h13 c6 c12).1 (h13 c6 c12).2 ?_
      refine ir_goto (pc' := 48) rfl rfl ?_
      refine ir_w [] trivial ?_
      exact J207 (z2 - 1) (h13 c6 c12) (hW _ (by rw [if_neg (fun z => c6 z), if_neg (by omega)]))
def W_root_27 (K27 : Int × Int × im_S → Prop) (l1 : Int) (l2 : Int) (l3 : Int) (l5 : Int) (s : im_S) (Q : Int → im_S → Prop) : Prop := ((l2 ≤ l5 → ((0 ≤ l1 ∧ l1 < 90) ∧ (W_floorOf (wga s 614 l1) l3 s (fun z5 s4 => (Q z5 s4))))) ∧ (¬ (l2 ≤ l5) → ((lR (l3 * 10)) ∧ (iR (l5 + 1)) ∧ (K27 ((l3 * 10), (l5 + 1), s)))))
def W_root_18 (s : im_S) (Q : Int → im_S → Prop) : Prop := (Q (-9000000000000000000) s)
def W_root (l1 : Int) (l2 : Int) (s : im_S) (Q : Int → im_S → Prop) : Prop := (W_isRoot l1 s (fun z9 s8 => ((z9 = 0 → (W_root_18 s8 Q)) ∧ (¬ (z9 = 0) → ((l2 < 0 → (W_root_18 s8 Q)) ∧ (¬ (l2 < 0) → ((l2 ≤ 8 → (wloop (fun (K : Int × Int × im_S → Prop) (a : Int × Int × im_S) => W_root_27 K l1 l2 a.1 a.2.1 a.2.2 Q) (1, 0, s8))) ∧ (¬ (l2 ≤ 8) → (W_root_18 s8 Q)))))))))
set_option maxRecDepth 16384 in
theorem w_root (L : Nat) (ys : Nat → Int32) (d : Nat) (s : im_S) (hv : vI s) (l1 : Int) (l1r : iR l1) (l2 : Int) (l2r : iR l2) (Q : Int → im_S → Prop) (hW : W_root l1 l2 s Q) : icI gG rm_P L ys 1 (d + 8) 89 [(2, ((582 : Nat) : Int)), (0, l1), (0, l2)] s (fun z9 s9 => vI s9 ∧ lR z9 ∧ Q z9 s9) := by
  refine ic_startM (M := rm_p_X10_root) om_X10_root (Nat.le_of_ble_eq_true rfl) ?_
  refine ir_w [(0, (2, ((582 : Nat) : Int))), (1, (0, l1)), (2, (0, l2))] ⟨rfl, rfl, rfl, trivial⟩ ?_
  have J27 : ∀ (l1 : Int) (l1r : iR l1) (l2 : Int) (l2r : iR l2) (I27 : Int × Int × im_S → Prop) (r27 : Int × Int × im_S → Nat) (hB27 : ∀ a : Int × Int × im_S, I27 a → W_root_27 (fun b => I27 b ∧ r27 b < r27 a) l1 l2 a.1 a.2.1 a.2.2 Q), ∀ n27 : Nat, ∀ (l3 : Int) (l3r : lR l3) (l5 : Int) (l5r : iR l5) (s : im_S) (hv : vI s), I27 (l3, l5, s) → r27 (l3, l5, s) < n27 → ir gG rm_P L ys (d + 7) rm_p_X10_root (27, [(0, (2, ((582 : Nat) : Int))), (1, (0, l1)), (2, (0, l2)), (3, (1, l3)), (5, (0, l5))], [], s) (fun r : im_Re => ∃ z, r.1 = some (1, z) ∧ (vI r.2 ∧ lR z ∧ Q z r.2)) := by
    intro l1 l1r l2 l2r I27 r27 hB27 n27
    induction n27 with
    | zero => intro l3 l3r l5 l5r s hv hI hr; exact absurd hr (Nat.not_lt_zero _)
    | succ n27 ih27 =>
      intro l3 l3r l5 l5r s hv hI hr27
      obtain ⟨t27, ht27⟩ : ∃ t27 : Int × Int × im_S, t27 = (l3, l5, s) := ⟨_, rfl⟩
      rw [← ht27] at hr27
      have hW : W_root_27 (fun b => I27 b ∧ r27 b < r27 t27) l1 l2 l3 l5 s Q := by have z := hB27 (l3, l5, s) hI; rw [ht27]; exact z
      unfold W_root_27 at hW
      refine ir_l (pc' := 29) rfl rfl rfl rfl rfl rfl ?_
      refine ir_l (pc' := 30) rfl rfl rfl rfl rfl rfl ?_
      refine ir_c_ge (pt := 45) (pc' := 33) rfl rfl rfl (fun c1 => ?_) (fun c1 => ?_)
      · have hW := hW.1 c1
        obtain ⟨h2, hW⟩ := hW
        refine ir_l (pc' := 46) rfl rfl rfl rfl rfl rfl ?_
        refine ir_l (pc' := 47) rfl rfl rfl rfl rfl rfl ?_
        refine ir_vgr (pc' := 50) (c := 614) rfl rfl rfl rfl rfl hv ?_
        refine ir_l (pc' := 51) rfl rfl rfl rfl rfl rfl ?_
        refine ir_via (pc' := 52) rfl rfl vg_614 rfl (Nat.le_of_ble_eq_true rfl) hv rfl h2 (fun r3 => ?_)
        refine ir_l (pc' := 53) rfl rfl rfl rfl rfl rfl ?_
        refine ir_cVI (pc' := 56) rfl rfl rfl rfl rfl (Nat.le_of_ble_eq_true rfl) oo_X10_floorOf vg_582 (w_floorOf L ys d s hv (wga s 614 l1) r3 l3 l3r _ hW) (fun z5 s4 hr => ?_)
        obtain ⟨s4v, z5r, hW⟩ := hr
        exact ir_lret rfl rfl ⟨_, rfl, s4v, z5r, hW⟩
      · have hW := hW.2 c1
        obtain ⟨h6, h7, hW⟩ := hW
        refine ir_l (pc' := 34) rfl rfl rfl rfl rfl rfl ?_
        refine ir_k (pc' := 37) (v := (1, 10)) rfl rfl rfl (fun _ => rfl) ?_
        refine ir_lmul (pc' := 38) rfl rfl h6.1 h6.2 ?_
        refine ir_s2 (pc' := 39) rfl rfl rfl rfl rfl rfl ?_
        refine ir_inc (pc' := 42) rfl rfl rfl rfl rfl h7.1 h7.2 ?_
        refine ir_goto (pc' := 27) rfl rfl ?_
        refine ir_w [(0, (2, ((582 : Nat) : Int))), (1, (0, l1)), (2, (0, l2)), (3, (1, (l3 * 10))), (5, (0, (l5 + 1)))] ⟨rfl, rfl, rfl, rfl, rfl, trivial⟩ ?_
        exact ih27 (l3 * 10) h6 (l5 + 1) h7 s hv hW.1 (Nat.lt_of_lt_of_le hW.2 (Nat.le_of_lt_succ hr27))
  have J18 : ∀ (s : im_S) (hv : vI s), W_root_18 s Q → ir gG rm_P L ys (d + 7) rm_p_X10_root (18, [], [], s) (fun r : im_Re => ∃ z, r.1 = some (1, z) ∧ (vI r.2 ∧ lR z ∧ Q z r.2)) := by
    intro s hv hW
    unfold W_root_18 at hW
    refine ir_k (pc' := 21) (v := (1, (-9000000000000000000))) rfl rfl rfl (fun _ => rfl) ?_
    exact ir_lret rfl rfl ⟨_, rfl, hv, (⟨by decide, by decide⟩ : lR (-9000000000000000000)), hW⟩
  unfold W_root at hW
  refine ir_l (pc' := 1) rfl rfl rfl rfl rfl rfl ?_
  refine ir_l (pc' := 2) rfl rfl rfl rfl rfl rfl ?_
  refine ir_cVI (pc' := 5) rfl rfl rfl rfl rfl (Nat.le_of_ble_eq_true rfl) oo_X10_isRoot vg_582 (w_isRoot L ys (d + 6) s hv l1 l1r _ hW) (fun z9 s8 hr => ?_)
  obtain ⟨s8v, z9r, hW⟩ := hr
  refine ir_z_eq (pt := 18) (pc' := 8) rfl rfl rfl (fun c10 => ?_) (fun c10 => ?_)
  · have hW := hW.1 c10
    refine ir_w [] trivial ?_
    exact J18 s8 s8v hW
  · have hW := hW.2 c10
    refine ir_l (pc' := 9) rfl rfl rfl rfl rfl rfl ?_
    refine ir_z_lt (pt := 18) (pc' := 12) rfl rfl rfl (fun c11 => ?_) (fun c11 => ?_)
    · have hW := hW.1 c11
      refine ir_w [] trivial ?_
      exact J18 s8 s8v hW
    · have hW := hW.2 c11
      refine ir_l (pc' := 13) rfl rfl rfl rfl rfl rfl ?_
      refine ir_k (pc' := 15) (v := (0, 8)) rfl rfl rfl (fun _ => rfl) ?_
      refine ir_c_le (pt := 22) (pc' := 18) rfl rfl rfl (fun c12 => ?_) (fun c12 => ?_)
      · have hW := hW.1 c12
        refine ir_k (pc' := 23) (v := (1, 1)) rfl rfl rfl (fun _ => rfl) ?_
        refine ir_s2 (pc' := 24) rfl rfl rfl rfl rfl rfl ?_
        refine ir_k (pc' := 25) (v := (0, 0)) rfl rfl rfl (fun _ => rfl) ?_
        refine ir_s (pc' := 27) rfl rfl rfl rfl rfl rfl ?_
        refine ir_w [(0, (2, ((582 : Nat) : Int))), (1, (0, l1)), (2, (0, l2)), (3, (1, 1)), (5, (0, 0))] ⟨rfl, rfl, rfl, rfl, rfl, trivial⟩ ?_
        obtain ⟨I9, r9, hI9, hB9⟩ := hW
        exact J27 l1 l1r l2 l2r I9 r9 hB9 _ 1 (⟨by decide, by decide⟩ : lR 1) 0 (zR_i (Or.inl rfl)) s8 s8v hI9 (Nat.lt_succ_self _)
      · have hW := hW.2 c12
        refine ir_w [] trivial ?_
        exact J18 s8 s8v hW
def W_sign_32 (k0 : Int) (s : im_S) (Q : Int → im_S → Prop) : Prop := (Q k0 s)
def W_sign (l1 : Int) (l2 : Int) (s : im_S) (Q : Int → im_S → Prop) : Prop := (W_isCell l1 s (fun z2 s1 => ((z2 = 0 → (W_sign_32 (-2) s1 Q)) ∧ (¬ (z2 = 0) → (W_isAtom l2 s1 (fun z5 s4 => ((¬ (z5 = 0) → iR (10 * l1)) ∧ (¬ (z5 = 0) → (0 ≤ ((10 * l1) + l2) ∧ ((10 * l1) + l2) < 2000)) ∧ (∀ v206 : Int, v206 = (if z5 = 0 then (-2) else (wga s4 617 ((10 * l1) + l2))) → (W_sign_32 v206 s4 Q)))))))))
set_option maxRecDepth 16384 in
theorem w_sign (L : Nat) (ys : Nat → Int32) (d : Nat) (s : im_S) (hv : vI s) (l1 : Int) (l1r : iR l1) (l2 : Int) (l2r : iR l2) (Q : Int → im_S → Prop) (hW : W_sign l1 l2 s Q) : icI gG rm_P L ys 0 (d + 3) 94 [(2, ((582 : Nat) : Int)), (0, l1), (0, l2)] s (fun z9 s9 => vI s9 ∧ iR z9 ∧ Q z9 s9) := by
  refine ic_startM (M := rm_p_X10_sign) om_X10_sign (Nat.le_of_ble_eq_true rfl) ?_
  refine ir_w [(0, (2, ((582 : Nat) : Int))), (1, (0, l1)), (2, (0, l2))] ⟨rfl, rfl, rfl, trivial⟩ ?_
  have J32 : ∀ (k0 : Int) (k0r : iR k0) (s : im_S) (hv : vI s), W_sign_32 k0 s Q → ir gG rm_P L ys (d + 2) rm_p_X10_sign (32, [], [(0, k0)], s) (fun r : im_Re => ∃ z, r.1 = some (0, z) ∧ (vI r.2 ∧ iR z ∧ Q z r.2)) := by
    intro k0 k0r s hv hW
    unfold W_sign_32 at hW
    exact ir_iret rfl rfl ⟨_, rfl, hv, k0r, hW⟩
  unfold W_sign at hW
  refine ir_l (pc' := 1) rfl rfl rfl rfl rfl rfl ?_
  refine ir_l (pc' := 2) rfl rfl rfl rfl rfl rfl ?_
  refine ir_cVI (pc' := 5) rfl rfl rfl rfl rfl (Nat.le_of_ble_eq_true rfl) oo_X10_isCell vg_582 (w_isCell L ys d s hv l1 l1r _ hW) (fun z2 s1 hr => ?_)
  obtain ⟨s1v, z2r, hW⟩ := hr
  refine ir_z_eq (pt := 30) (pc' := 8) rfl rfl rfl (fun c3 => ?_) (fun c3 => ?_)
  · have hW := hW.1 c3
    refine ir_k (pc' := 32) (v := (0, (-2))) rfl rfl rfl (fun _ => rfl) ?_
    refine ir_w [] trivial ?_
    exact J32 (-2) (⟨by decide, by decide⟩ : iR (-2)) s1 s1v hW
  · have hW := hW.2 c3
    refine ir_l (pc' := 9) rfl rfl rfl rfl rfl rfl ?_
    refine ir_l (pc' := 10) rfl rfl rfl rfl rfl rfl ?_
    refine ir_cVI (pc' := 13) rfl rfl rfl rfl rfl (Nat.le_of_ble_eq_true rfl) oo_X10_isAtom vg_582 (w_isAtom L ys (d + 1) s1 s1v l2 l2r _ hW) (fun z5 s4 hr => ?_)
    obtain ⟨s4v, z5r, hW⟩ := hr
    obtain ⟨h7, h9, hW⟩ := hW
    have h8 : ¬ (z5 = 0) → iR ((10 * l1) + l2) := fun g0_ => ⟨by have z := h9 g0_; omega, by have z := h9 g0_; omega⟩
    have J207 : ∀ v206 : Int, iR v206 → ((W_sign_32 v206 s4 Q)) → ir gG rm_P L ys (d + 2) rm_p_X10_sign (32, [], [(0, v206)], s4) (fun r : im_Re => ∃ z, r.1 = some (0, z) ∧ (vI r.2 ∧ iR z ∧ Q z r.2)) := by
      intro v206 v206r hW
      refine ir_w [] trivial ?_
      exact J32 v206 v206r s4 s4v hW
    refine ir_z_eq (pt := 30) (pc' := 16) rfl rfl rfl (fun c6 => ?_) (fun c6 => ?_)
    · refine ir_k (pc' := 32) (v := (0, (-2))) rfl rfl rfl (fun _ => rfl) ?_
      refine ir_w [] trivial ?_
      exact J207 (-2) (⟨by decide, by decide⟩ : iR (-2)) (hW _ (by rw [if_pos c6]))
    · refine ir_l (pc' := 17) rfl rfl rfl rfl rfl rfl ?_
      refine ir_vgr (pc' := 20) (c := 617) rfl rfl rfl rfl rfl s4v ?_
      refine ir_k (pc' := 22) (v := (0, 10)) rfl rfl rfl (fun _ => rfl) ?_
      refine ir_l (pc' := 23) rfl rfl rfl rfl rfl rfl ?_
      refine ir_mul (pc' := 24) rfl rfl (h7 c6).1 (h7 c6).2 ?_
      refine ir_l (pc' := 25) rfl rfl rfl rfl rfl rfl ?_
      refine ir_add (pc' := 26) rfl rfl (h8 c6).1 (h8 c6).2 ?_
      refine ir_via (pc' := 27) rfl rfl vg_617 rfl (Nat.le_of_ble_eq_true rfl) s4v rfl (h9 c6) (fun r10 => ?_)
      refine ir_goto (pc' := 32) rfl rfl ?_
      refine ir_w [] trivial ?_
      exact J207 (wga s4 617 ((10 * l1) + l2)) r10 (hW _ (by rw [if_neg (fun z => c6 z)]))
def W_signAt_70 (K70 : Int × Int × Int × im_S → Prop) (l1 : Int) (l2 : Int) (l3 : Int) (l5 : Int) (l6 : Int) (l7 : Int) (l8 : Int) (s : im_S) (Q : Int → im_S → Prop) : Prop := ((l8 < 0 → (W_sgn l6 s (fun z3 s2 => (∀ s4, s4 = wpf s2 24 l5 → (Q z3 s4))))) ∧ (¬ (l8 < 0) → (W_whole l3 s (fun z6 s5 => (W_by l7 z6 s5 (fun z8 s7 => (W_whole l2 s7 (fun z10 s9 => (W_by l6 z10 s9 (fun z12 s11 => ((iR (9 * l1)) ∧ (0 ≤ ((9 * l1) + l8) ∧ ((9 * l1) + l8) < 90) ∧ (W_whole (wga s11 584 ((9 * l1) + l8)) s11 (fun z18 s17 => (W_by z18 z8 s17 (fun z20 s19 => (W_plus z12 z20 s19 (fun z22 s21 => ((iR (l8 + (-1))) ∧ (K70 (z22, z8, (l8 + (-1)), s21))))))))))))))))))))
def W_signAt_16 (s : im_S) (Q : Int → im_S → Prop) : Prop := (Q (-2) s)
def W_signAt (l1 : Int) (l2 : Int) (l3 : Int) (s : im_S) (Q : Int → im_S → Prop) : Prop := (W_isAtom l1 s (fun z25 s24 => ((z25 = 0 → (W_signAt_16 s24 Q)) ∧ (¬ (z25 = 0) → (W_isNumber l2 l3 s24 (fun z28 s27 => ((¬ (z28 = 0) → (W_degreeOf l1 s27 (fun z31 s30 => ((0 ≤ z31 → ((iR (9 * l1)) ∧ (0 ≤ ((9 * l1) + z31) ∧ ((9 * l1) + z31) < 90) ∧ (W_whole (wga s30 584 ((9 * l1) + z31)) s30 (fun z39 s38 => (W_whole 1 s38 (fun z41 s40 => ((iR (z31 - 1)) ∧ (wloop (fun (K : Int × Int × Int × im_S → Prop) (a : Int × Int × Int × im_S) => W_signAt_70 K l1 l2 l3 (wgf s30 24) a.1 a.2.1 a.2.2.1 a.2.2.2 Q) (z39, z41, (z31 - 1), s40))))))))) ∧ (¬ (0 ≤ z31) → (Q 0 s30)))))) ∧ (z28 = 0 → (W_signAt_16 s27 Q)))))))))
set_option maxRecDepth 16384 in
theorem w_signAt (L : Nat) (ys : Nat → Int32) (d : Nat) (s : im_S) (hv : vI s) (l1 : Int) (l1r : iR l1) (l2 : Int) (l2r : iR l2) (l3 : Int) (l3r : iR l3) (Q : Int → im_S → Prop) (hW : W_signAt l1 l2 l3 s Q) : icI gG rm_P L ys 0 (d + 5) 96 [(2, ((582 : Nat) : Int)), (0, l1), (0, l2), (0, l3)] s (fun z9 s9 => vI s9 ∧ iR z9 ∧ Q z9 s9) := by
  refine ic_startM (M := rm_p_X10_signAt) om_X10_signAt (Nat.le_of_ble_eq_true rfl) ?_
  refine ir_w [(0, (2, ((582 : Nat) : Int))), (1, (0, l1)), (2, (0, l2)), (3, (0, l3))] ⟨rfl, rfl, rfl, rfl, trivial⟩ ?_
  have J70 : ∀ (l1 : Int) (l1r : iR l1) (l2 : Int) (l2r : iR l2) (l3 : Int) (l3r : iR l3) (l5 : Int) (l5r : iR l5) (I70 : Int × Int × Int × im_S → Prop) (r70 : Int × Int × Int × im_S → Nat) (hB70 : ∀ a : Int × Int × Int × im_S, I70 a → W_signAt_70 (fun b => I70 b ∧ r70 b < r70 a) l1 l2 l3 l5 a.1 a.2.1 a.2.2.1 a.2.2.2 Q), ∀ n70 : Nat, ∀ (l6 : Int) (l6r : iR l6) (l7 : Int) (l7r : iR l7) (l8 : Int) (l8r : iR l8) (s : im_S) (hv : vI s), I70 (l6, l7, l8, s) → r70 (l6, l7, l8, s) < n70 → ir gG rm_P L ys (d + 4) rm_p_X10_signAt (70, [(0, (2, ((582 : Nat) : Int))), (1, (0, l1)), (2, (0, l2)), (3, (0, l3)), (5, (0, l5)), (6, (0, l6)), (7, (0, l7)), (8, (0, l8))], [], s) (fun r : im_Re => ∃ z, r.1 = some (0, z) ∧ (vI r.2 ∧ iR z ∧ Q z r.2)) := by
    intro l1 l1r l2 l2r l3 l3r l5 l5r I70 r70 hB70 n70
    induction n70 with
    | zero => intro l6 l6r l7 l7r l8 l8r s hv hI hr; exact absurd hr (Nat.not_lt_zero _)
    | succ n70 ih70 =>
      intro l6 l6r l7 l7r l8 l8r s hv hI hr70
      obtain ⟨t70, ht70⟩ : ∃ t70 : Int × Int × Int × im_S, t70 = (l6, l7, l8, s) := ⟨_, rfl⟩
      rw [← ht70] at hr70
      have hW : W_signAt_70 (fun b => I70 b ∧ r70 b < r70 t70) l1 l2 l3 l5 l6 l7 l8 s Q := by have z := hB70 (l6, l7, l8, s) hI; rw [ht70]; exact z
      unfold W_signAt_70 at hW
      refine ir_l (pc' := 72) rfl rfl rfl rfl rfl rfl ?_
      refine ir_z_lt (pt := 135) (pc' := 75) rfl rfl rfl (fun c1 => ?_) (fun c1 => ?_)
      · have hW := hW.1 c1
        refine ir_l (pc' := 136) rfl rfl rfl rfl rfl rfl ?_
        refine ir_l (pc' := 138) rfl rfl rfl rfl rfl rfl ?_
        refine ir_cVI (pc' := 141) rfl rfl rfl rfl rfl (Nat.le_of_ble_eq_true rfl) oo_X10_sgn vg_582 (w_sgn L ys (d + 3) s hv l6 l6r _ hW) (fun z3 s2 hr => ?_)
        obtain ⟨s2v, z3r, hW⟩ := hr
        refine ir_s (pc' := 143) rfl rfl rfl rfl rfl rfl ?_
        refine ir_l (pc' := 144) rfl rfl rfl rfl rfl rfl ?_
        refine ir_l (pc' := 146) rfl rfl rfl rfl rfl rfl ?_
        refine ir_vpi (pc' := 149) rfl rfl rfl rfl rfl rfl rfl s2v l5r (fun s4 s4e s4v => ?_)
        have hW := hW s4 s4e
        refine ir_l (pc' := 151) rfl rfl rfl rfl rfl rfl ?_
        exact ir_iret rfl rfl ⟨_, rfl, s4v, z3r, hW⟩
      · have hW := hW.2 c1
        refine ir_l (pc' := 76) rfl rfl rfl rfl rfl rfl ?_
        refine ir_l (pc' := 78) rfl rfl rfl rfl rfl rfl ?_
        refine ir_l (pc' := 79) rfl rfl rfl rfl rfl rfl ?_
        refine ir_l (pc' := 80) rfl rfl rfl rfl rfl rfl ?_
        refine ir_i2l (pc' := 81) rfl rfl l3r.1 l3r.2 ?_
        refine ir_cVI (pc' := 84) rfl rfl rfl rfl rfl (Nat.le_of_ble_eq_true rfl) oo_X10_whole vg_582 (w_whole L ys (d + 3) s hv l3 (iR_l l3r) _ hW) (fun z6 s5 hr => ?_)
        obtain ⟨s5v, z6r, hW⟩ := hr
        refine ir_cVI (pc' := 87) rfl rfl rfl rfl rfl (Nat.le_of_ble_eq_true rfl) oo_X10_by vg_582 (w_by L ys (d + 2) s5 s5v l7 l7r z6 z6r _ hW) (fun z8 s7 hr => ?_)
        obtain ⟨s7v, z8r, hW⟩ := hr
        refine ir_s (pc' := 89) rfl rfl rfl rfl rfl rfl ?_
        refine ir_l (pc' := 90) rfl rfl rfl rfl rfl rfl ?_
        refine ir_l (pc' := 91) rfl rfl rfl rfl rfl rfl ?_
        refine ir_l (pc' := 93) rfl rfl rfl rfl rfl rfl ?_
        refine ir_l (pc' := 94) rfl rfl rfl rfl rfl rfl ?_
        refine ir_l (pc' := 95) rfl rfl rfl rfl rfl rfl ?_
        refine ir_i2l (pc' := 96) rfl rfl l2r.1 l2r.2 ?_
        refine ir_cVI (pc' := 99) rfl rfl rfl rfl rfl (Nat.le_of_ble_eq_true rfl) oo_X10_whole vg_582 (w_whole L ys (d + 3) s7 s7v l2 (iR_l l2r) _ hW) (fun z10 s9 hr => ?_)
        obtain ⟨s9v, z10r, hW⟩ := hr
        refine ir_cVI (pc' := 102) rfl rfl rfl rfl rfl (Nat.le_of_ble_eq_true rfl) oo_X10_by vg_582 (w_by L ys (d + 2) s9 s9v l6 l6r z10 z10r _ hW) (fun z12 s11 hr => ?_)
        obtain ⟨s11v, z12r, hW⟩ := hr
        obtain ⟨h13, h15, hW⟩ := hW
        have h14 : iR ((9 * l1) + l8) := ⟨by omega, by omega⟩
        refine ir_l (pc' := 103) rfl rfl rfl rfl rfl rfl ?_
        refine ir_l (pc' := 104) rfl rfl rfl rfl rfl rfl ?_
        refine ir_l (pc' := 105) rfl rfl rfl rfl rfl rfl ?_
        refine ir_vgr (pc' := 108) (c := 584) rfl rfl rfl rfl rfl s11v ?_
        refine ir_k (pc' := 110) (v := (0, 9)) rfl rfl rfl (fun _ => rfl) ?_
        refine ir_l (pc' := 111) rfl rfl rfl rfl rfl rfl ?_
        refine ir_mul (pc' := 112) rfl rfl h13.1 h13.2 ?_
        refine ir_l (pc' := 114) rfl rfl rfl rfl rfl rfl ?_
        refine ir_add (pc' := 115) rfl rfl h14.1 h14.2 ?_
        refine ir_vla (pc' := 116) rfl rfl vg_584 rfl (Nat.le_of_ble_eq_true rfl) s11v rfl h15 (fun r16 => ?_)
        refine ir_cVI (pc' := 119) rfl rfl rfl rfl rfl (Nat.le_of_ble_eq_true rfl) oo_X10_whole vg_582 (w_whole L ys (d + 3) s11 s11v (wga s11 584 ((9 * l1) + l8)) r16 _ hW) (fun z18 s17 hr => ?_)
        obtain ⟨s17v, z18r, hW⟩ := hr
        refine ir_l (pc' := 121) rfl rfl rfl rfl rfl rfl ?_
        refine ir_cVI (pc' := 124) rfl rfl rfl rfl rfl (Nat.le_of_ble_eq_true rfl) oo_X10_by vg_582 (w_by L ys (d + 2) s17 s17v z18 z18r z8 z8r _ hW) (fun z20 s19 hr => ?_)
        obtain ⟨s19v, z20r, hW⟩ := hr
        refine ir_cVI (pc' := 127) rfl rfl rfl rfl rfl (Nat.le_of_ble_eq_true rfl) oo_X10_plus vg_582 (w_plus L ys d s19 s19v z12 z12r z20 z20r _ hW) (fun z22 s21 hr => ?_)
        obtain ⟨s21v, z22r, hW⟩ := hr
        obtain ⟨h23, hW⟩ := hW
        refine ir_s (pc' := 129) rfl rfl rfl rfl rfl rfl ?_
        refine ir_inc (pc' := 132) rfl rfl rfl rfl rfl h23.1 h23.2 ?_
        refine ir_goto (pc' := 70) rfl rfl ?_
        refine ir_w [(0, (2, ((582 : Nat) : Int))), (1, (0, l1)), (2, (0, l2)), (3, (0, l3)), (5, (0, l5)), (6, (0, z22)), (7, (0, z8)), (8, (0, (l8 + (-1))))] ⟨rfl, rfl, rfl, rfl, rfl, rfl, rfl, rfl, trivial⟩ ?_
        exact ih70 z22 z22r z8 z8r (l8 + (-1)) h23 s21 s21v hW.1 (Nat.lt_of_lt_of_le hW.2 (Nat.le_of_lt_succ hr70))
  have J16 : ∀ (s : im_S) (hv : vI s), W_signAt_16 s Q → ir gG rm_P L ys (d + 4) rm_p_X10_signAt (16, [], [], s) (fun r : im_Re => ∃ z, r.1 = some (0, z) ∧ (vI r.2 ∧ iR z ∧ Q z r.2)) := by
    intro s hv hW
    unfold W_signAt_16 at hW
    refine ir_k (pc' := 18) (v := (0, (-2))) rfl rfl rfl (fun _ => rfl) ?_
    exact ir_iret rfl rfl ⟨_, rfl, hv, (⟨by decide, by decide⟩ : iR (-2)), hW⟩
  unfold W_signAt at hW
  refine ir_l (pc' := 1) rfl rfl rfl rfl rfl rfl ?_
  refine ir_l (pc' := 2) rfl rfl rfl rfl rfl rfl ?_
  refine ir_cVI (pc' := 5) rfl rfl rfl rfl rfl (Nat.le_of_ble_eq_true rfl) oo_X10_isAtom vg_582 (w_isAtom L ys (d + 3) s hv l1 l1r _ hW) (fun z25 s24 hr => ?_)
  obtain ⟨s24v, z25r, hW⟩ := hr
  refine ir_z_eq (pt := 16) (pc' := 8) rfl rfl rfl (fun c26 => ?_) (fun c26 => ?_)
  · have hW := hW.1 c26
    refine ir_w [] trivial ?_
    exact J16 s24 s24v hW
  · have hW := hW.2 c26
    refine ir_l (pc' := 9) rfl rfl rfl rfl rfl rfl ?_
    refine ir_l (pc' := 10) rfl rfl rfl rfl rfl rfl ?_
    refine ir_cSI (pc' := 13) rfl rfl rfl rfl rfl rfl (Nat.le_of_ble_eq_true rfl) (w_isNumber L ys (d + 3) s24 s24v l2 l2r l3 l3r _ hW) (fun z28 s27 hr => ?_)
    obtain ⟨s27v, z28r, hW⟩ := hr
    refine ir_z_ne (pt := 19) (pc' := 16) rfl rfl rfl (fun c29 => ?_) (fun c29 => ?_)
    · have hW := hW.1 c29
      refine ir_l (pc' := 20) rfl rfl rfl rfl rfl rfl ?_
      refine ir_l (pc' := 21) rfl rfl rfl rfl rfl rfl ?_
      refine ir_cVI (pc' := 24) rfl rfl rfl rfl rfl (Nat.le_of_ble_eq_true rfl) oo_X10_degreeOf vg_582 (w_degreeOf L ys (d + 3) s27 s27v l1 l1r _ hW) (fun z31 s30 hr => ?_)
      obtain ⟨s30v, z31r, hW⟩ := hr
      refine ir_s (pc' := 26) rfl rfl rfl rfl rfl rfl ?_
      refine ir_l (pc' := 28) rfl rfl rfl rfl rfl rfl ?_
      refine ir_z_ge (pt := 33) (pc' := 31) rfl rfl rfl (fun c32 => ?_) (fun c32 => ?_)
      · have hW := hW.1 c32
        obtain ⟨h34, h36, hW⟩ := hW
        have h35 : iR ((9 * l1) + z31) := ⟨by omega, by omega⟩
        refine ir_l (pc' := 34) rfl rfl rfl rfl rfl rfl ?_
        refine ir_vgi (pc' := 37) rfl rfl rfl rfl rfl s30v (fun r33 => ?_)
        refine ir_s (pc' := 39) rfl rfl rfl rfl rfl rfl ?_
        refine ir_l (pc' := 40) rfl rfl rfl rfl rfl rfl ?_
        refine ir_l (pc' := 41) rfl rfl rfl rfl rfl rfl ?_
        refine ir_vgr (pc' := 44) (c := 584) rfl rfl rfl rfl rfl s30v ?_
        refine ir_k (pc' := 46) (v := (0, 9)) rfl rfl rfl (fun _ => rfl) ?_
        refine ir_l (pc' := 47) rfl rfl rfl rfl rfl rfl ?_
        refine ir_mul (pc' := 48) rfl rfl h34.1 h34.2 ?_
        refine ir_l (pc' := 50) rfl rfl rfl rfl rfl rfl ?_
        refine ir_add (pc' := 51) rfl rfl h35.1 h35.2 ?_
        refine ir_vla (pc' := 52) rfl rfl vg_584 rfl (Nat.le_of_ble_eq_true rfl) s30v rfl h36 (fun r37 => ?_)
        refine ir_cVI (pc' := 55) rfl rfl rfl rfl rfl (Nat.le_of_ble_eq_true rfl) oo_X10_whole vg_582 (w_whole L ys (d + 3) s30 s30v (wga s30 584 ((9 * l1) + z31)) r37 _ hW) (fun z39 s38 hr => ?_)
        obtain ⟨s38v, z39r, hW⟩ := hr
        refine ir_s (pc' := 57) rfl rfl rfl rfl rfl rfl ?_
        refine ir_l (pc' := 58) rfl rfl rfl rfl rfl rfl ?_
        refine ir_k (pc' := 59) (v := (1, 1)) rfl rfl rfl (fun _ => rfl) ?_
        refine ir_cVI (pc' := 62) rfl rfl rfl rfl rfl (Nat.le_of_ble_eq_true rfl) oo_X10_whole vg_582 (w_whole L ys (d + 3) s38 s38v 1 (⟨by decide, by decide⟩ : lR 1) _ hW) (fun z41 s40 hr => ?_)
        obtain ⟨s40v, z41r, hW⟩ := hr
        obtain ⟨h42, hW⟩ := hW
        refine ir_s (pc' := 64) rfl rfl rfl rfl rfl rfl ?_
        refine ir_l (pc' := 66) rfl rfl rfl rfl rfl rfl ?_
        refine ir_k (pc' := 67) (v := (0, 1)) rfl rfl rfl (fun _ => rfl) ?_
        refine ir_sub (pc' := 68) rfl rfl h42.1 h42.2 ?_
        refine ir_s (pc' := 70) rfl rfl rfl rfl rfl rfl ?_
        refine ir_w [(0, (2, ((582 : Nat) : Int))), (1, (0, l1)), (2, (0, l2)), (3, (0, l3)), (5, (0, (wgf s30 24))), (6, (0, z39)), (7, (0, z41)), (8, (0, (z31 - 1)))] ⟨rfl, rfl, rfl, rfl, rfl, rfl, rfl, rfl, trivial⟩ ?_
        obtain ⟨I9, r9, hI9, hB9⟩ := hW
        exact J70 l1 l1r l2 l2r l3 l3r (wgf s30 24) r33 I9 r9 hB9 _ z39 z39r z41 z41r (z31 - 1) h42 s40 s40v hI9 (Nat.lt_succ_self _)
      · have hW := hW.2 c32
        refine ir_k (pc' := 32) (v := (0, 0)) rfl rfl rfl (fun _ => rfl) ?_
        exact ir_iret rfl rfl ⟨_, rfl, s30v, (zR_i (Or.inl rfl)), hW⟩
    · have hW := hW.2 c29
      refine ir_w [] trivial ?_
      exact J16 s27 s27v hW
def W_simple_248 (l2 : Int) (l3 : Int) (l5 : Int) (l7 : Int) (l9 : Int) (s : im_S) (Q : Int → im_S → Prop) : Prop := (∀ v201 : Int, v201 = (if l3 = 0 then l9 else (if l7 ≤ 0 then l9 else l7)) → (∀ v403 : Int, v403 = (if ¬ (l2 = 0) then l5 else v201) → (Q v403 s)))
def W_simple_183 (K123 : Int × im_S → Prop) (l1 : Int) (l2 : Int) (l3 : Int) (l4 : Int) (l5 : Int) (l7 : Int) (k0 : Int) (s : im_S) (Q : Int → im_S → Prop) : Prop := (∀ v605 : Int, v605 = (if l3 = 0 then (if l4 = 0 then 1 else (if k0 < 0 then 0 else 1)) else (if 0 < l7 then 0 else (if l4 = 0 then 1 else (if k0 < 0 then 0 else 1)))) → ((v605 = 0 → ((l3 = 0 → (W_simple_248 l2 l3 l5 l7 k0 s Q)) ∧ (¬ (l3 = 0) → ((l4 = 0 → (W_simple_248 l2 l3 l5 l7 k0 s Q)) ∧ (¬ (l4 = 0) → ((k0 < l7 → ((lR (l5 + 1)) ∧ (K123 ((l5 + 1), s)))) ∧ (¬ (k0 < l7) → (W_simple_248 l2 l3 l5 l7 k0 s Q)))))))) ∧ (¬ (v605 = 0) → (∀ v813 : Int, v813 = (if ¬ (l2 = 0) then l5 else 0) → (Q v813 s)))))
def W_simple_158 (K123 : Int × im_S → Prop) (l1 : Int) (l2 : Int) (l3 : Int) (l4 : Int) (l5 : Int) (k0 : Int) (s : im_S) (Q : Int → im_S → Prop) : Prop := ((l4 = 0 → (W_simple_183 K123 l1 l2 l3 l4 l5 k0 0 s Q)) ∧ (¬ (l4 = 0) → ((0 ≤ (l1.tdiv 2) ∧ (l1.tdiv 2) < 90) ∧ (W_mostBelow (wga s 614 (l1.tdiv 2)) l5 s (fun z819 s818 => (W_simple_183 K123 l1 l2 l3 l4 l5 k0 z819 s818 Q))))))
def W_simple_123 (K123 : Int × im_S → Prop) (l1 : Int) (l2 : Int) (l3 : Int) (l4 : Int) (l5 : Int) (s : im_S) (Q : Int → im_S → Prop) : Prop := ((2000 < l5 → (Q (-9000000000000000003) s)) ∧ (¬ (2000 < l5) → ((l3 = 0 → (W_simple_158 K123 l1 l2 l3 l4 l5 0 s Q)) ∧ (¬ (l3 = 0) → ((0 ≤ ((l1.tdiv 2) - 1) ∧ ((l1.tdiv 2) - 1) < 90) ∧ (W_floorOf (wga s 614 ((l1.tdiv 2) - 1)) l5 s (fun z827 s826 => ((lR (z827 + 1)) ∧ (W_simple_158 K123 l1 l2 l3 l4 l5 (z827 + 1) s826 Q)))))))))
def W_simple_17 (s : im_S) (Q : Int → im_S → Prop) : Prop := (Q (-9000000000000000001) s)
def W_simple (l1 : Int) (l2 : Int) (s : im_S) (Q : Int → im_S → Prop) : Prop := (W_isCell l1 s (fun z830 s829 => ((z830 = 0 → (W_simple_17 s829 Q)) ∧ (¬ (z830 = 0) → ((l2 < 0 → (W_simple_17 s829 Q)) ∧ (¬ (l2 < 0) → ((l2 ≤ 1 → ((¬ ((l1.tmod 2) = 1) → (∀ v1035 : Int, v1035 = (if l1 ≤ 0 then 0 else 1) → (W_cells s829 (fun z1038 s1037 => ((iR (z1038 - 1)) ∧ (∀ v1240 : Int, v1240 = (if (z1038 - 1) ≤ l1 then 0 else 1) → (wloop (fun (K : Int × im_S → Prop) (a : Int × im_S) => W_simple_123 K l1 l2 v1035 v1240 a.1 a.2 Q) (1, s1037)))))))) ∧ ((l1.tmod 2) = 1 → ((0 ≤ (l1.tdiv 2) ∧ (l1.tdiv 2) < 90) ∧ (0 ≤ (wga s829 614 (l1.tdiv 2)) ∧ (wga s829 614 (l1.tdiv 2)) < 90) ∧ (∀ v1447 : Int, v1447 = (if ¬ ((wga s829 609 (wga s829 614 (l1.tdiv 2))) = 0) then (if (wga s829 609 (wga s829 614 (l1.tdiv 2))) ≤ 2000 then (if ¬ (l2 = 0) then (wga s829 609 (wga s829 614 (l1.tdiv 2))) else (wga s829 608 (wga s829 614 (l1.tdiv 2)))) else (-9000000000000000003)) else (-9000000000000000002)) → (Q v1447 s829)))))) ∧ (¬ (l2 ≤ 1) → (W_simple_17 s829 Q)))))))))
set_option maxRecDepth 16384 in
theorem w_simple (L : Nat) (ys : Nat → Int32) (d : Nat) (s : im_S) (hv : vI s) (l1 : Int) (l1r : iR l1) (l2 : Int) (l2r : iR l2) (Q : Int → im_S → Prop) (hW : W_simple l1 l2 s Q) : icI gG rm_P L ys 1 (d + 9) 98 [(2, ((582 : Nat) : Int)), (0, l1), (0, l2)] s (fun z9 s9 => vI s9 ∧ lR z9 ∧ Q z9 s9) := by
  refine ic_startM (M := rm_p_X10_simple) om_X10_simple (Nat.le_of_ble_eq_true rfl) ?_
  refine ir_w [(0, (2, ((582 : Nat) : Int))), (1, (0, l1)), (2, (0, l2))] ⟨rfl, rfl, rfl, trivial⟩ ?_
  have J248 : ∀ (l2 : Int) (l2r : iR l2) (l3 : Int) (l3r : iR l3) (l5 : Int) (l5r : lR l5) (l7 : Int) (l7r : lR l7) (l9 : Int) (l9r : lR l9) (s : im_S) (hv : vI s), W_simple_248 l2 l3 l5 l7 l9 s Q → ir gG rm_P L ys (d + 8) rm_p_X10_simple (248, [(2, (0, l2)), (3, (0, l3)), (5, (1, l5)), (7, (1, l7)), (9, (1, l9))], [], s) (fun r : im_Re => ∃ z, r.1 = some (1, z) ∧ (vI r.2 ∧ lR z ∧ Q z r.2)) := by
    intro l2 l2r l3 l3r l5 l5r l7 l7r l9 l9r s hv hW
    unfold W_simple_248 at hW
    refine ir_l (pc' := 249) rfl rfl rfl rfl rfl rfl ?_
    have J202 : ∀ v201 : Int, lR v201 → ((∀ v403 : Int, v403 = (if ¬ (l2 = 0) then l5 else v201) → (Q v403 s))) → ir gG rm_P L ys (d + 8) rm_p_X10_simple (266, [(2, (0, l2)), (5, (1, l5))], [(1, v201)], s) (fun r : im_Re => ∃ z, r.1 = some (1, z) ∧ (vI r.2 ∧ lR z ∧ Q z r.2)) := by
      intro v201 v201r hW
      refine ir_s2 (pc' := 268) rfl rfl rfl rfl rfl rfl ?_
      refine ir_l (pc' := 269) rfl rfl rfl rfl rfl rfl ?_
      have J404 : ∀ v403 : Int, lR v403 → ((Q v403 s)) → ir gG rm_P L ys (d + 8) rm_p_X10_simple (279, [], [(1, v403)], s) (fun r : im_Re => ∃ z, r.1 = some (1, z) ∧ (vI r.2 ∧ lR z ∧ Q z r.2)) := by
        intro v403 v403r hW
        exact ir_lret rfl rfl ⟨_, rfl, hv, v403r, hW⟩
      refine ir_z_ne (pt := 277) (pc' := 272) rfl rfl rfl (fun c203 => ?_) (fun c203 => ?_)
      · refine ir_l (pc' := 279) rfl rfl rfl rfl rfl rfl ?_
        refine ir_w [] trivial ?_
        exact J404 l5 l5r (hW _ (by rw [if_pos c203]))
      · refine ir_l (pc' := 274) rfl rfl rfl rfl rfl rfl ?_
        refine ir_goto (pc' := 279) rfl rfl ?_
        refine ir_w [] trivial ?_
        exact J404 v201 v201r (hW _ (by rw [if_neg (by omega)]))
    refine ir_z_eq (pt := 264) (pc' := 252) rfl rfl rfl (fun c1 => ?_) (fun c1 => ?_)
    · refine ir_l (pc' := 266) rfl rfl rfl rfl rfl rfl ?_
      refine ir_w [(2, (0, l2)), (5, (1, l5))] ⟨rfl, rfl, trivial⟩ ?_
      exact J202 l9 l9r (hW _ (by rw [if_pos c1]))
    · refine ir_l (pc' := 254) rfl rfl rfl rfl rfl rfl ?_
      refine ir_k (pc' := 255) (v := (1, 0)) rfl rfl rfl (fun _ => rfl) ?_
      refine ir_lcmp (pc' := 256) rfl rfl l7r.1 l7r.2 (⟨by decide, by decide⟩ : lR 0).1 (⟨by decide, by decide⟩ : lR 0).2 (fun z2 z2c => ?_)
      refine ir_z_le (pt := 264) (pc' := 259) rfl rfl rfl (fun c3 => ?_) (fun c3 => ?_)
      · have c3 : l7 ≤ 0 := by omega
        refine ir_l (pc' := 266) rfl rfl rfl rfl rfl rfl ?_
        refine ir_w [(2, (0, l2)), (5, (1, l5))] ⟨rfl, rfl, trivial⟩ ?_
        exact J202 l9 l9r (hW _ (by rw [if_neg (fun z => c1 z), if_pos c3]))
      · have c3 : ¬ (l7 ≤ 0) := by omega
        refine ir_l (pc' := 261) rfl rfl rfl rfl rfl rfl ?_
        refine ir_goto (pc' := 266) rfl rfl ?_
        refine ir_w [(2, (0, l2)), (5, (1, l5))] ⟨rfl, rfl, trivial⟩ ?_
        exact J202 l7 l7r (hW _ (by rw [if_neg (fun z => c1 z), if_neg (fun z => c3 z)]))
  have J123 : ∀ (l1 : Int) (l1r : iR l1) (l2 : Int) (l2r : iR l2) (l3 : Int) (l3r : iR l3) (l4 : Int) (l4r : iR l4) (I123 : Int × im_S → Prop) (r123 : Int × im_S → Nat) (hB123 : ∀ a : Int × im_S, I123 a → W_simple_123 (fun b => I123 b ∧ r123 b < r123 a) l1 l2 l3 l4 a.1 a.2 Q), ∀ n123 : Nat, ∀ (l5 : Int) (l5r : lR l5) (s : im_S) (hv : vI s), I123 (l5, s) → r123 (l5, s) < n123 → ir gG rm_P L ys (d + 8) rm_p_X10_simple (123, [(0, (2, ((582 : Nat) : Int))), (1, (0, l1)), (2, (0, l2)), (3, (0, l3)), (4, (0, l4)), (5, (1, l5))], [], s) (fun r : im_Re => ∃ z, r.1 = some (1, z) ∧ (vI r.2 ∧ lR z ∧ Q z r.2)) := by
    intro l1 l1r l2 l2r l3 l3r l4 l4r I123 r123 hB123 n123
    induction n123 with
    | zero => intro l5 l5r s hv hI hr; exact absurd hr (Nat.not_lt_zero _)
    | succ n123 ih123 =>
      intro l5 l5r s hv hI hr123
      obtain ⟨t123, ht123⟩ : ∃ t123 : Int × im_S, t123 = (l5, s) := ⟨_, rfl⟩
      rw [← ht123] at hr123
      have hW : W_simple_123 (fun b => I123 b ∧ r123 b < r123 t123) l1 l2 l3 l4 l5 s Q := by have z := hB123 (l5, s) hI; rw [ht123]; exact z
      have J183 : ∀ (l5 : Int) (l5r : lR l5) (l7 : Int) (l7r : lR l7) (k0 : Int) (k0r : lR k0) (s : im_S) (hv : vI s), W_simple_183 (fun b => I123 b ∧ r123 b < r123 t123) l1 l2 l3 l4 l5 l7 k0 s Q → ir gG rm_P L ys (d + 8) rm_p_X10_simple (183, [(0, (2, ((582 : Nat) : Int))), (1, (0, l1)), (2, (0, l2)), (3, (0, l3)), (4, (0, l4)), (5, (1, l5)), (7, (1, l7))], [(1, k0)], s) (fun r : im_Re => ∃ z, r.1 = some (1, z) ∧ (vI r.2 ∧ lR z ∧ Q z r.2)) := by
        intro l5 l5r l7 l7r k0 k0r s hv hW
        unfold W_simple_183 at hW
        refine ir_s2 (pc' := 185) rfl rfl rfl rfl rfl rfl ?_
        refine ir_l (pc' := 186) rfl rfl rfl rfl rfl rfl ?_
        have J606 : ∀ v605 : Int, zR v605 → (((v605 = 0 → ((l3 = 0 → (W_simple_248 l2 l3 l5 l7 k0 s Q)) ∧ (¬ (l3 = 0) → ((l4 = 0 → (W_simple_248 l2 l3 l5 l7 k0 s Q)) ∧ (¬ (l4 = 0) → ((k0 < l7 → ((lR (l5 + 1)) ∧ ((fun b => I123 b ∧ r123 b < r123 t123) ((l5 + 1), s)))) ∧ (¬ (k0 < l7) → (W_simple_248 l2 l3 l5 l7 k0 s Q)))))))) ∧ (¬ (v605 = 0) → (∀ v813 : Int, v813 = (if ¬ (l2 = 0) then l5 else 0) → (Q v813 s))))) → ir gG rm_P L ys (d + 8) rm_p_X10_simple (213, [(0, (2, ((582 : Nat) : Int))), (1, (0, l1)), (2, (0, l2)), (3, (0, l3)), (4, (0, l4)), (5, (1, l5)), (7, (1, l7)), (9, (1, k0))], [(0, v605)], s) (fun r : im_Re => ∃ z, r.1 = some (1, z) ∧ (vI r.2 ∧ lR z ∧ Q z r.2)) := by
          intro v605 v605r hW
          refine ir_s (pc' := 215) rfl rfl rfl rfl rfl rfl ?_
          refine ir_l (pc' := 217) rfl rfl rfl rfl rfl rfl ?_
          refine ir_z_eq (pt := 231) (pc' := 220) rfl rfl rfl (fun c607 => ?_) (fun c607 => ?_)
          · have hW := hW.1 c607
            refine ir_l (pc' := 232) rfl rfl rfl rfl rfl rfl ?_
            refine ir_z_eq (pt := 248) (pc' := 235) rfl rfl rfl (fun c608 => ?_) (fun c608 => ?_)
            · have hW := hW.1 c608
              refine ir_w [(2, (0, l2)), (3, (0, l3)), (5, (1, l5)), (7, (1, l7)), (9, (1, k0))] ⟨rfl, rfl, rfl, rfl, rfl, trivial⟩ ?_
              exact J248 l2 l2r l3 l3r l5 l5r l7 l7r k0 k0r s hv hW
            · have hW := hW.2 c608
              refine ir_l (pc' := 237) rfl rfl rfl rfl rfl rfl ?_
              refine ir_z_eq (pt := 248) (pc' := 240) rfl rfl rfl (fun c609 => ?_) (fun c609 => ?_)
              · have hW := hW.1 c609
                refine ir_w [(2, (0, l2)), (3, (0, l3)), (5, (1, l5)), (7, (1, l7)), (9, (1, k0))] ⟨rfl, rfl, rfl, rfl, rfl, trivial⟩ ?_
                exact J248 l2 l2r l3 l3r l5 l5r l7 l7r k0 k0r s hv hW
              · have hW := hW.2 c609
                refine ir_l (pc' := 242) rfl rfl rfl rfl rfl rfl ?_
                refine ir_l (pc' := 244) rfl rfl rfl rfl rfl rfl ?_
                refine ir_lcmp (pc' := 245) rfl rfl l7r.1 l7r.2 k0r.1 k0r.2 (fun z610 z610c => ?_)
                refine ir_z_gt (pt := 280) (pc' := 248) rfl rfl rfl (fun c611 => ?_) (fun c611 => ?_)
                · have c611 : k0 < l7 := by omega
                  have hW := hW.1 c611
                  obtain ⟨h612, hW⟩ := hW
                  refine ir_l (pc' := 282) rfl rfl rfl rfl rfl rfl ?_
                  refine ir_k (pc' := 283) (v := (1, 1)) rfl rfl rfl (fun _ => rfl) ?_
                  refine ir_ladd (pc' := 284) rfl rfl h612.1 h612.2 ?_
                  refine ir_s2 (pc' := 286) rfl rfl rfl rfl rfl rfl ?_
                  refine ir_goto (pc' := 123) rfl rfl ?_
                  refine ir_w [(0, (2, ((582 : Nat) : Int))), (1, (0, l1)), (2, (0, l2)), (3, (0, l3)), (4, (0, l4)), (5, (1, (l5 + 1)))] ⟨rfl, rfl, rfl, rfl, rfl, rfl, trivial⟩ ?_
                  exact ih123 (l5 + 1) h612 s hv hW.1 (Nat.lt_of_lt_of_le hW.2 (Nat.le_of_lt_succ hr123))
                · have c611 : ¬ (k0 < l7) := by omega
                  have hW := hW.2 c611
                  refine ir_w [(2, (0, l2)), (3, (0, l3)), (5, (1, l5)), (7, (1, l7)), (9, (1, k0))] ⟨rfl, rfl, rfl, rfl, rfl, trivial⟩ ?_
                  exact J248 l2 l2r l3 l3r l5 l5r l7 l7r k0 k0r s hv hW
          · have hW := hW.2 c607
            refine ir_l (pc' := 221) rfl rfl rfl rfl rfl rfl ?_
            have J814 : ∀ v813 : Int, lR v813 → ((Q v813 s)) → ir gG rm_P L ys (d + 8) rm_p_X10_simple (230, [], [(1, v813)], s) (fun r : im_Re => ∃ z, r.1 = some (1, z) ∧ (vI r.2 ∧ lR z ∧ Q z r.2)) := by
              intro v813 v813r hW
              exact ir_lret rfl rfl ⟨_, rfl, hv, v813r, hW⟩
            refine ir_z_ne (pt := 228) (pc' := 224) rfl rfl rfl (fun c613 => ?_) (fun c613 => ?_)
            · refine ir_l (pc' := 230) rfl rfl rfl rfl rfl rfl ?_
              refine ir_w [] trivial ?_
              exact J814 l5 l5r (hW _ (by rw [if_pos c613]))
            · refine ir_k (pc' := 225) (v := (1, 0)) rfl rfl rfl (fun _ => rfl) ?_
              refine ir_goto (pc' := 230) rfl rfl ?_
              refine ir_w [] trivial ?_
              exact J814 0 (⟨by decide, by decide⟩ : lR 0) (hW _ (by rw [if_neg (by omega)]))
        refine ir_z_eq (pt := 196) (pc' := 189) rfl rfl rfl (fun c405 => ?_) (fun c405 => ?_)
        · refine ir_l (pc' := 198) rfl rfl rfl rfl rfl rfl ?_
          refine ir_z_eq (pt := 208) (pc' := 201) rfl rfl rfl (fun c406 => ?_) (fun c406 => ?_)
          · refine ir_k (pc' := 209) (v := (0, 1)) rfl rfl rfl (fun _ => rfl) ?_
            refine ir_goto (pc' := 213) rfl rfl ?_
            refine ir_w [(0, (2, ((582 : Nat) : Int))), (1, (0, l1)), (2, (0, l2)), (3, (0, l3)), (4, (0, l4)), (5, (1, l5)), (7, (1, l7)), (9, (1, k0))] ⟨rfl, rfl, rfl, rfl, rfl, rfl, rfl, rfl, trivial⟩ ?_
            exact J606 1 (Or.inr rfl) (hW _ (by rw [if_pos c405, if_pos c406]))
          · refine ir_l (pc' := 203) rfl rfl rfl rfl rfl rfl ?_
            refine ir_k (pc' := 204) (v := (1, 0)) rfl rfl rfl (fun _ => rfl) ?_
            refine ir_lcmp (pc' := 205) rfl rfl k0r.1 k0r.2 (⟨by decide, by decide⟩ : lR 0).1 (⟨by decide, by decide⟩ : lR 0).2 (fun z407 z407c => ?_)
            refine ir_z_lt (pt := 212) (pc' := 208) rfl rfl rfl (fun c408 => ?_) (fun c408 => ?_)
            · have c408 : k0 < 0 := by omega
              refine ir_k (pc' := 213) (v := (0, 0)) rfl rfl rfl (fun _ => rfl) ?_
              refine ir_w [(0, (2, ((582 : Nat) : Int))), (1, (0, l1)), (2, (0, l2)), (3, (0, l3)), (4, (0, l4)), (5, (1, l5)), (7, (1, l7)), (9, (1, k0))] ⟨rfl, rfl, rfl, rfl, rfl, rfl, rfl, rfl, trivial⟩ ?_
              exact J606 0 (Or.inl rfl) (hW _ (by rw [if_pos c405, if_neg (fun z => c406 z), if_pos c408]))
            · have c408 : ¬ (k0 < 0) := by omega
              refine ir_k (pc' := 209) (v := (0, 1)) rfl rfl rfl (fun _ => rfl) ?_
              refine ir_goto (pc' := 213) rfl rfl ?_
              refine ir_w [(0, (2, ((582 : Nat) : Int))), (1, (0, l1)), (2, (0, l2)), (3, (0, l3)), (4, (0, l4)), (5, (1, l5)), (7, (1, l7)), (9, (1, k0))] ⟨rfl, rfl, rfl, rfl, rfl, rfl, rfl, rfl, trivial⟩ ?_
              exact J606 1 (Or.inr rfl) (hW _ (by rw [if_pos c405, if_neg (fun z => c406 z), if_neg (fun z => c408 z)]))
        · refine ir_l (pc' := 191) rfl rfl rfl rfl rfl rfl ?_
          refine ir_k (pc' := 192) (v := (1, 0)) rfl rfl rfl (fun _ => rfl) ?_
          refine ir_lcmp (pc' := 193) rfl rfl l7r.1 l7r.2 (⟨by decide, by decide⟩ : lR 0).1 (⟨by decide, by decide⟩ : lR 0).2 (fun z409 z409c => ?_)
          refine ir_z_gt (pt := 212) (pc' := 196) rfl rfl rfl (fun c410 => ?_) (fun c410 => ?_)
          · have c410 : 0 < l7 := by omega
            refine ir_k (pc' := 213) (v := (0, 0)) rfl rfl rfl (fun _ => rfl) ?_
            refine ir_w [(0, (2, ((582 : Nat) : Int))), (1, (0, l1)), (2, (0, l2)), (3, (0, l3)), (4, (0, l4)), (5, (1, l5)), (7, (1, l7)), (9, (1, k0))] ⟨rfl, rfl, rfl, rfl, rfl, rfl, rfl, rfl, trivial⟩ ?_
            exact J606 0 (Or.inl rfl) (hW _ (by rw [if_neg (fun z => c405 z), if_pos c410]))
          · have c410 : ¬ (0 < l7) := by omega
            refine ir_l (pc' := 198) rfl rfl rfl rfl rfl rfl ?_
            refine ir_z_eq (pt := 208) (pc' := 201) rfl rfl rfl (fun c411 => ?_) (fun c411 => ?_)
            · refine ir_k (pc' := 209) (v := (0, 1)) rfl rfl rfl (fun _ => rfl) ?_
              refine ir_goto (pc' := 213) rfl rfl ?_
              refine ir_w [(0, (2, ((582 : Nat) : Int))), (1, (0, l1)), (2, (0, l2)), (3, (0, l3)), (4, (0, l4)), (5, (1, l5)), (7, (1, l7)), (9, (1, k0))] ⟨rfl, rfl, rfl, rfl, rfl, rfl, rfl, rfl, trivial⟩ ?_
              exact J606 1 (Or.inr rfl) (hW _ (by rw [if_neg (fun z => c405 z), if_neg (fun z => c410 z), if_pos c411]))
            · refine ir_l (pc' := 203) rfl rfl rfl rfl rfl rfl ?_
              refine ir_k (pc' := 204) (v := (1, 0)) rfl rfl rfl (fun _ => rfl) ?_
              refine ir_lcmp (pc' := 205) rfl rfl k0r.1 k0r.2 (⟨by decide, by decide⟩ : lR 0).1 (⟨by decide, by decide⟩ : lR 0).2 (fun z412 z412c => ?_)
              refine ir_z_lt (pt := 212) (pc' := 208) rfl rfl rfl (fun c413 => ?_) (fun c413 => ?_)
              · have c413 : k0 < 0 := by omega
                refine ir_k (pc' := 213) (v := (0, 0)) rfl rfl rfl (fun _ => rfl) ?_
                refine ir_w [(0, (2, ((582 : Nat) : Int))), (1, (0, l1)), (2, (0, l2)), (3, (0, l3)), (4, (0, l4)), (5, (1, l5)), (7, (1, l7)), (9, (1, k0))] ⟨rfl, rfl, rfl, rfl, rfl, rfl, rfl, rfl, trivial⟩ ?_
                exact J606 0 (Or.inl rfl) (hW _ (by rw [if_neg (fun z => c405 z), if_neg (fun z => c410 z), if_neg (fun z => c411 z), if_pos c413]))
              · have c413 : ¬ (k0 < 0) := by omega
                refine ir_k (pc' := 209) (v := (0, 1)) rfl rfl rfl (fun _ => rfl) ?_
                refine ir_goto (pc' := 213) rfl rfl ?_
                refine ir_w [(0, (2, ((582 : Nat) : Int))), (1, (0, l1)), (2, (0, l2)), (3, (0, l3)), (4, (0, l4)), (5, (1, l5)), (7, (1, l7)), (9, (1, k0))] ⟨rfl, rfl, rfl, rfl, rfl, rfl, rfl, rfl, trivial⟩ ?_
                exact J606 1 (Or.inr rfl) (hW _ (by rw [if_neg (fun z => c405 z), if_neg (fun z => c410 z), if_neg (fun z => c411 z), if_neg (fun z => c413 z)]))
      have J158 : ∀ (l5 : Int) (l5r : lR l5) (k0 : Int) (k0r : lR k0) (s : im_S) (hv : vI s), W_simple_158 (fun b => I123 b ∧ r123 b < r123 t123) l1 l2 l3 l4 l5 k0 s Q → ir gG rm_P L ys (d + 8) rm_p_X10_simple (158, [(0, (2, ((582 : Nat) : Int))), (1, (0, l1)), (2, (0, l2)), (3, (0, l3)), (4, (0, l4)), (5, (1, l5))], [(1, k0)], s) (fun r : im_Re => ∃ z, r.1 = some (1, z) ∧ (vI r.2 ∧ lR z ∧ Q z r.2)) := by
        intro l5 l5r k0 k0r s hv hW
        unfold W_simple_158 at hW
        refine ir_s2 (pc' := 160) rfl rfl rfl rfl rfl rfl ?_
        refine ir_l (pc' := 162) rfl rfl rfl rfl rfl rfl ?_
        refine ir_z_eq (pt := 182) (pc' := 165) rfl rfl rfl (fun c815 => ?_) (fun c815 => ?_)
        · have hW := hW.1 c815
          refine ir_k (pc' := 183) (v := (1, 0)) rfl rfl rfl (fun _ => rfl) ?_
          refine ir_w [(0, (2, ((582 : Nat) : Int))), (1, (0, l1)), (2, (0, l2)), (3, (0, l3)), (4, (0, l4)), (5, (1, l5)), (7, (1, k0))] ⟨rfl, rfl, rfl, rfl, rfl, rfl, rfl, trivial⟩ ?_
          exact J183 l5 l5r k0 k0r 0 (⟨by decide, by decide⟩ : lR 0) s hv hW
        · have hW := hW.2 c815
          obtain ⟨h816, hW⟩ := hW
          refine ir_l (pc' := 166) rfl rfl rfl rfl rfl rfl ?_
          refine ir_l (pc' := 167) rfl rfl rfl rfl rfl rfl ?_
          refine ir_vgr (pc' := 170) (c := 614) rfl rfl rfl rfl rfl hv ?_
          refine ir_l (pc' := 171) rfl rfl rfl rfl rfl rfl ?_
          refine ir_k (pc' := 172) (v := (0, 2)) rfl rfl rfl (fun _ => rfl) ?_
          refine ir_div (pc' := 173) rfl rfl l1r.1 l1r.2 (by decide) (⟨by decide, by decide⟩ : iR 2).2 ?_
          refine ir_via (pc' := 174) rfl rfl vg_614 rfl (Nat.le_of_ble_eq_true rfl) hv rfl h816 (fun r817 => ?_)
          refine ir_l (pc' := 176) rfl rfl rfl rfl rfl rfl ?_
          refine ir_cVI (pc' := 179) rfl rfl rfl rfl rfl (Nat.le_of_ble_eq_true rfl) oo_X10_mostBelow vg_582 (w_mostBelow L ys d s hv (wga s 614 (l1.tdiv 2)) r817 l5 l5r _ hW) (fun z819 s818 hr => ?_)
          obtain ⟨s818v, z819r, hW⟩ := hr
          refine ir_goto (pc' := 183) rfl rfl ?_
          refine ir_w [(0, (2, ((582 : Nat) : Int))), (1, (0, l1)), (2, (0, l2)), (3, (0, l3)), (4, (0, l4)), (5, (1, l5)), (7, (1, k0))] ⟨rfl, rfl, rfl, rfl, rfl, rfl, rfl, trivial⟩ ?_
          exact J183 l5 l5r k0 k0r z819 z819r s818 s818v hW
      unfold W_simple_123 at hW
      refine ir_l (pc' := 125) rfl rfl rfl rfl rfl rfl ?_
      refine ir_k (pc' := 128) (v := (1, 2000)) rfl rfl rfl (fun _ => rfl) ?_
      refine ir_lcmp (pc' := 129) rfl rfl l5r.1 l5r.2 (⟨by decide, by decide⟩ : lR 2000).1 (⟨by decide, by decide⟩ : lR 2000).2 (fun z820 z820c => ?_)
      refine ir_z_gt (pt := 289) (pc' := 132) rfl rfl rfl (fun c821 => ?_) (fun c821 => ?_)
      · have c821 : 2000 < l5 := by omega
        have hW := hW.1 c821
        refine ir_k (pc' := 292) (v := (1, (-9000000000000000003))) rfl rfl rfl (fun _ => rfl) ?_
        exact ir_lret rfl rfl ⟨_, rfl, hv, (⟨by decide, by decide⟩ : lR (-9000000000000000003)), hW⟩
      · have c821 : ¬ (2000 < l5) := by omega
        have hW := hW.2 c821
        refine ir_l (pc' := 133) rfl rfl rfl rfl rfl rfl ?_
        refine ir_z_eq (pt := 157) (pc' := 136) rfl rfl rfl (fun c822 => ?_) (fun c822 => ?_)
        · have hW := hW.1 c822
          refine ir_k (pc' := 158) (v := (1, 0)) rfl rfl rfl (fun _ => rfl) ?_
          refine ir_w [(0, (2, ((582 : Nat) : Int))), (1, (0, l1)), (2, (0, l2)), (3, (0, l3)), (4, (0, l4)), (5, (1, l5))] ⟨rfl, rfl, rfl, rfl, rfl, rfl, trivial⟩ ?_
          exact J158 l5 l5r 0 (⟨by decide, by decide⟩ : lR 0) s hv hW
        · have hW := hW.2 c822
          obtain ⟨h824, hW⟩ := hW
          have h823 : iR ((l1.tdiv 2) - 1) := ⟨by omega, by omega⟩
          refine ir_l (pc' := 137) rfl rfl rfl rfl rfl rfl ?_
          refine ir_l (pc' := 138) rfl rfl rfl rfl rfl rfl ?_
          refine ir_vgr (pc' := 141) (c := 614) rfl rfl rfl rfl rfl hv ?_
          refine ir_l (pc' := 142) rfl rfl rfl rfl rfl rfl ?_
          refine ir_k (pc' := 143) (v := (0, 2)) rfl rfl rfl (fun _ => rfl) ?_
          refine ir_div (pc' := 144) rfl rfl l1r.1 l1r.2 (by decide) (⟨by decide, by decide⟩ : iR 2).2 ?_
          refine ir_k (pc' := 145) (v := (0, 1)) rfl rfl rfl (fun _ => rfl) ?_
          refine ir_sub (pc' := 146) rfl rfl h823.1 h823.2 ?_
          refine ir_via (pc' := 147) rfl rfl vg_614 rfl (Nat.le_of_ble_eq_true rfl) hv rfl h824 (fun r825 => ?_)
          refine ir_l (pc' := 149) rfl rfl rfl rfl rfl rfl ?_
          refine ir_cVI (pc' := 152) rfl rfl rfl rfl rfl (Nat.le_of_ble_eq_true rfl) oo_X10_floorOf vg_582 (w_floorOf L ys (d + 1) s hv (wga s 614 ((l1.tdiv 2) - 1)) r825 l5 l5r _ hW) (fun z827 s826 hr => ?_)
          obtain ⟨s826v, z827r, hW⟩ := hr
          obtain ⟨h828, hW⟩ := hW
          refine ir_k (pc' := 153) (v := (1, 1)) rfl rfl rfl (fun _ => rfl) ?_
          refine ir_ladd (pc' := 154) rfl rfl h828.1 h828.2 ?_
          refine ir_goto (pc' := 158) rfl rfl ?_
          refine ir_w [(0, (2, ((582 : Nat) : Int))), (1, (0, l1)), (2, (0, l2)), (3, (0, l3)), (4, (0, l4)), (5, (1, l5))] ⟨rfl, rfl, rfl, rfl, rfl, rfl, trivial⟩ ?_
          exact J158 l5 l5r (z827 + 1) h828 s826 s826v hW
  have J17 : ∀ (s : im_S) (hv : vI s), W_simple_17 s Q → ir gG rm_P L ys (d + 8) rm_p_X10_simple (17, [], [], s) (fun r : im_Re => ∃ z, r.1 = some (1, z) ∧ (vI r.2 ∧ lR z ∧ Q z r.2)) := by
    intro s hv hW
    unfold W_simple_17 at hW
    refine ir_k (pc' := 20) (v := (1, (-9000000000000000001))) rfl rfl rfl (fun _ => rfl) ?_
    exact ir_lret rfl rfl ⟨_, rfl, hv, (⟨by decide, by decide⟩ : lR (-9000000000000000001)), hW⟩
  unfold W_simple at hW
  refine ir_l (pc' := 1) rfl rfl rfl rfl rfl rfl ?_
  refine ir_l (pc' := 2) rfl rfl rfl rfl rfl rfl ?_
  refine ir_cVI (pc' := 5) rfl rfl rfl rfl rfl (Nat.le_of_ble_eq_true rfl) oo_X10_isCell vg_582 (w_isCell L ys (d + 6) s hv l1 l1r _ hW) (fun z830 s829 hr => ?_)
  obtain ⟨s829v, z830r, hW⟩ := hr
  refine ir_z_eq (pt := 17) (pc' := 8) rfl rfl rfl (fun c831 => ?_) (fun c831 => ?_)
  · have hW := hW.1 c831
    refine ir_w [] trivial ?_
    exact J17 s829 s829v hW
  · have hW := hW.2 c831
    refine ir_l (pc' := 9) rfl rfl rfl rfl rfl rfl ?_
    refine ir_z_lt (pt := 17) (pc' := 12) rfl rfl rfl (fun c832 => ?_) (fun c832 => ?_)
    · have hW := hW.1 c832
      refine ir_w [] trivial ?_
      exact J17 s829 s829v hW
    · have hW := hW.2 c832
      refine ir_l (pc' := 13) rfl rfl rfl rfl rfl rfl ?_
      refine ir_k (pc' := 14) (v := (0, 1)) rfl rfl rfl (fun _ => rfl) ?_
      refine ir_c_le (pt := 21) (pc' := 17) rfl rfl rfl (fun c833 => ?_) (fun c833 => ?_)
      · have hW := hW.1 c833
        refine ir_l (pc' := 22) rfl rfl rfl rfl rfl rfl ?_
        refine ir_k (pc' := 23) (v := (0, 2)) rfl rfl rfl (fun _ => rfl) ?_
        refine ir_rem (pc' := 24) rfl rfl l1r.1 l1r.2 (by decide) (⟨by decide, by decide⟩ : iR 2).2 ?_
        refine ir_k (pc' := 25) (v := (0, 1)) rfl rfl rfl (fun _ => rfl) ?_
        refine ir_c_ne (pt := 93) (pc' := 28) rfl rfl rfl (fun c834 => ?_) (fun c834 => ?_)
        · have hW := hW.1 c834
          refine ir_l (pc' := 94) rfl rfl rfl rfl rfl rfl ?_
          have J1036 : ∀ v1035 : Int, zR v1035 → ((W_cells s829 (fun z1038 s1037 => ((iR (z1038 - 1)) ∧ (∀ v1240 : Int, v1240 = (if (z1038 - 1) ≤ l1 then 0 else 1) → (wloop (fun (K : Int × im_S → Prop) (a : Int × im_S) => W_simple_123 K l1 l2 v1035 v1240 a.1 a.2 Q) (1, s1037))))))) → ir gG rm_P L ys (d + 8) rm_p_X10_simple (102, [(0, (2, ((582 : Nat) : Int))), (1, (0, l1)), (2, (0, l2))], [(0, v1035)], s829) (fun r : im_Re => ∃ z, r.1 = some (1, z) ∧ (vI r.2 ∧ lR z ∧ Q z r.2)) := by
            intro v1035 v1035r hW
            refine ir_s (pc' := 103) rfl rfl rfl rfl rfl rfl ?_
            refine ir_l (pc' := 104) rfl rfl rfl rfl rfl rfl ?_
            refine ir_l (pc' := 105) rfl rfl rfl rfl rfl rfl ?_
            refine ir_cVI (pc' := 108) rfl rfl rfl rfl rfl (Nat.le_of_ble_eq_true rfl) oo_X10_cells vg_582 (w_cells L ys (d + 7) s829 s829v  _ hW) (fun z1038 s1037 hr => ?_)
            obtain ⟨s1037v, z1038r, hW⟩ := hr
            obtain ⟨h1039, hW⟩ := hW
            refine ir_k (pc' := 109) (v := (0, 1)) rfl rfl rfl (fun _ => rfl) ?_
            refine ir_sub (pc' := 110) rfl rfl h1039.1 h1039.2 ?_
            have J1241 : ∀ v1240 : Int, zR v1240 → ((wloop (fun (K : Int × im_S → Prop) (a : Int × im_S) => W_simple_123 K l1 l2 v1035 v1240 a.1 a.2 Q) (1, s1037))) → ir gG rm_P L ys (d + 8) rm_p_X10_simple (118, [(0, (2, ((582 : Nat) : Int))), (1, (0, l1)), (2, (0, l2)), (3, (0, v1035))], [(0, v1240)], s1037) (fun r : im_Re => ∃ z, r.1 = some (1, z) ∧ (vI r.2 ∧ lR z ∧ Q z r.2)) := by
              intro v1240 v1240r hW
              refine ir_s (pc' := 120) rfl rfl rfl rfl rfl rfl ?_
              refine ir_k (pc' := 121) (v := (1, 1)) rfl rfl rfl (fun _ => rfl) ?_
              refine ir_s2 (pc' := 123) rfl rfl rfl rfl rfl rfl ?_
              refine ir_w [(0, (2, ((582 : Nat) : Int))), (1, (0, l1)), (2, (0, l2)), (3, (0, v1035)), (4, (0, v1240)), (5, (1, 1))] ⟨rfl, rfl, rfl, rfl, rfl, rfl, trivial⟩ ?_
              obtain ⟨I9, r9, hI9, hB9⟩ := hW
              exact J123 l1 l1r l2 l2r v1035 (zR_i v1035r) v1240 (zR_i v1240r) I9 r9 hB9 _ 1 (⟨by decide, by decide⟩ : lR 1) s1037 s1037v hI9 (Nat.lt_succ_self _)
            refine ir_c_ge (pt := 117) (pc' := 113) rfl rfl rfl (fun c1040 => ?_) (fun c1040 => ?_)
            · refine ir_k (pc' := 118) (v := (0, 0)) rfl rfl rfl (fun _ => rfl) ?_
              refine ir_w [(0, (2, ((582 : Nat) : Int))), (1, (0, l1)), (2, (0, l2)), (3, (0, v1035))] ⟨rfl, rfl, rfl, rfl, trivial⟩ ?_
              exact J1241 0 (Or.inl rfl) (hW _ (by rw [if_pos c1040]))
            · refine ir_k (pc' := 114) (v := (0, 1)) rfl rfl rfl (fun _ => rfl) ?_
              refine ir_goto (pc' := 118) rfl rfl ?_
              refine ir_w [(0, (2, ((582 : Nat) : Int))), (1, (0, l1)), (2, (0, l2)), (3, (0, v1035))] ⟨rfl, rfl, rfl, rfl, trivial⟩ ?_
              exact J1241 1 (Or.inr rfl) (hW _ (by rw [if_neg (fun z => c1040 z)]))
          refine ir_z_le (pt := 101) (pc' := 97) rfl rfl rfl (fun c835 => ?_) (fun c835 => ?_)
          · refine ir_k (pc' := 102) (v := (0, 0)) rfl rfl rfl (fun _ => rfl) ?_
            refine ir_w [(0, (2, ((582 : Nat) : Int))), (1, (0, l1)), (2, (0, l2))] ⟨rfl, rfl, rfl, trivial⟩ ?_
            exact J1036 0 (Or.inl rfl) (hW _ (by rw [if_pos c835]))
          · refine ir_k (pc' := 98) (v := (0, 1)) rfl rfl rfl (fun _ => rfl) ?_
            refine ir_goto (pc' := 102) rfl rfl ?_
            refine ir_w [(0, (2, ((582 : Nat) : Int))), (1, (0, l1)), (2, (0, l2))] ⟨rfl, rfl, rfl, trivial⟩ ?_
            exact J1036 1 (Or.inr rfl) (hW _ (by rw [if_neg (fun z => c835 z)]))
        · have hW := hW.2 c834
          obtain ⟨h1242, h1244, hW⟩ := hW
          refine ir_l (pc' := 29) rfl rfl rfl rfl rfl rfl ?_
          refine ir_vgr (pc' := 32) (c := 614) rfl rfl rfl rfl rfl s829v ?_
          refine ir_l (pc' := 33) rfl rfl rfl rfl rfl rfl ?_
          refine ir_k (pc' := 34) (v := (0, 2)) rfl rfl rfl (fun _ => rfl) ?_
          refine ir_div (pc' := 35) rfl rfl l1r.1 l1r.2 (by decide) (⟨by decide, by decide⟩ : iR 2).2 ?_
          refine ir_via (pc' := 36) rfl rfl vg_614 rfl (Nat.le_of_ble_eq_true rfl) s829v rfl h1242 (fun r1243 => ?_)
          refine ir_s (pc' := 37) rfl rfl rfl rfl rfl rfl ?_
          refine ir_l (pc' := 38) rfl rfl rfl rfl rfl rfl ?_
          refine ir_vgr (pc' := 41) (c := 609) rfl rfl rfl rfl rfl s829v ?_
          refine ir_l (pc' := 42) rfl rfl rfl rfl rfl rfl ?_
          refine ir_vla (pc' := 43) rfl rfl vg_609 rfl (Nat.le_of_ble_eq_true rfl) s829v rfl h1244 (fun r1245 => ?_)
          refine ir_k (pc' := 44) (v := (1, 0)) rfl rfl rfl (fun _ => rfl) ?_
          refine ir_lcmp (pc' := 45) rfl rfl r1245.1 r1245.2 (⟨by decide, by decide⟩ : lR 0).1 (⟨by decide, by decide⟩ : lR 0).2 (fun z1246 z1246c => ?_)
          have J1448 : ∀ v1447 : Int, lR v1447 → ((Q v1447 s829)) → ir gG rm_P L ys (d + 8) rm_p_X10_simple (92, [], [(1, v1447)], s829) (fun r : im_Re => ∃ z, r.1 = some (1, z) ∧ (vI r.2 ∧ lR z ∧ Q z r.2)) := by
            intro v1447 v1447r hW
            exact ir_lret rfl rfl ⟨_, rfl, s829v, v1447r, hW⟩
          refine ir_z_ne (pt := 54) (pc' := 48) rfl rfl rfl (fun c1247 => ?_) (fun c1247 => ?_)
          · have c1247 : ¬ ((wga s829 609 (wga s829 614 (l1.tdiv 2))) = 0) := by omega
            refine ir_l (pc' := 55) rfl rfl rfl rfl rfl rfl ?_
            refine ir_vgr (pc' := 58) (c := 609) rfl rfl rfl rfl rfl s829v ?_
            refine ir_l (pc' := 59) rfl rfl rfl rfl rfl rfl ?_
            refine ir_vla (pc' := 60) rfl rfl vg_609 rfl (Nat.le_of_ble_eq_true rfl) s829v rfl h1244 (fun r1248 => ?_)
            refine ir_k (pc' := 63) (v := (1, 2000)) rfl rfl rfl (fun _ => rfl) ?_
            refine ir_lcmp (pc' := 64) rfl rfl r1248.1 r1248.2 (⟨by decide, by decide⟩ : lR 2000).1 (⟨by decide, by decide⟩ : lR 2000).2 (fun z1249 z1249c => ?_)
            refine ir_z_le (pt := 73) (pc' := 67) rfl rfl rfl (fun c1250 => ?_) (fun c1250 => ?_)
            · have c1250 : (wga s829 609 (wga s829 614 (l1.tdiv 2))) ≤ 2000 := by omega
              refine ir_l (pc' := 74) rfl rfl rfl rfl rfl rfl ?_
              refine ir_z_ne (pt := 86) (pc' := 77) rfl rfl rfl (fun c1251 => ?_) (fun c1251 => ?_)
              · refine ir_l (pc' := 87) rfl rfl rfl rfl rfl rfl ?_
                refine ir_vgr (pc' := 90) (c := 609) rfl rfl rfl rfl rfl s829v ?_
                refine ir_l (pc' := 91) rfl rfl rfl rfl rfl rfl ?_
                refine ir_vla (pc' := 92) rfl rfl vg_609 rfl (Nat.le_of_ble_eq_true rfl) s829v rfl h1244 (fun r1252 => ?_)
                refine ir_w [] trivial ?_
                exact J1448 (wga s829 609 (wga s829 614 (l1.tdiv 2))) r1252 (hW _ (by rw [if_pos c1247, if_pos c1250, if_pos c1251]))
              · refine ir_l (pc' := 78) rfl rfl rfl rfl rfl rfl ?_
                refine ir_vgr (pc' := 81) (c := 608) rfl rfl rfl rfl rfl s829v ?_
                refine ir_l (pc' := 82) rfl rfl rfl rfl rfl rfl ?_
                refine ir_vla (pc' := 83) rfl rfl vg_608 rfl (Nat.le_of_ble_eq_true rfl) s829v rfl h1244 (fun r1253 => ?_)
                refine ir_goto (pc' := 92) rfl rfl ?_
                refine ir_w [] trivial ?_
                exact J1448 (wga s829 608 (wga s829 614 (l1.tdiv 2))) r1253 (hW _ (by rw [if_pos c1247, if_pos c1250, if_neg (by omega)]))
            · have c1250 : ¬ ((wga s829 609 (wga s829 614 (l1.tdiv 2))) ≤ 2000) := by omega
              refine ir_k (pc' := 70) (v := (1, (-9000000000000000003))) rfl rfl rfl (fun _ => rfl) ?_
              refine ir_goto (pc' := 92) rfl rfl ?_
              refine ir_w [] trivial ?_
              exact J1448 (-9000000000000000003) (⟨by decide, by decide⟩ : lR (-9000000000000000003)) (hW _ (by rw [if_pos c1247, if_neg (fun z => c1250 z)]))
          · have c1247 : (wga s829 609 (wga s829 614 (l1.tdiv 2))) = 0 := by omega
            refine ir_k (pc' := 51) (v := (1, (-9000000000000000002))) rfl rfl rfl (fun _ => rfl) ?_
            refine ir_goto (pc' := 92) rfl rfl ?_
            refine ir_w [] trivial ?_
            exact J1448 (-9000000000000000002) (⟨by decide, by decide⟩ : lR (-9000000000000000002)) (hW _ (by rw [if_neg (by omega)]))
      · have hW := hW.2 c833
        refine ir_w [] trivial ?_
        exact J17 s829 s829v hW
