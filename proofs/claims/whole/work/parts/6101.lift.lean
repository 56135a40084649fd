/-! THE REFERENCE LIFTED, by program -/
def W_plus_104 (k0 : Int) (s : im_S) (Q : Int → im_S → Prop) : Prop := (Q k0 s)
def W_plus_22 (l1 : Int) (l2 : Int) (l3 : Int) (s : im_S) (Q : Int → im_S → Prop) : Prop := (∀ v201 : Int, v201 = (if ¬ (l3 = 0) then l1 else l2) → (W_again v201 s (fun z204 s203 => (Q z204 s203))))
def W_plus (l1 : Int) (l2 : Int) (s : im_S) (Q : Int → im_S → Prop) : Prop := (W_sgn l1 s (fun z206 s205 => (W_sgn l2 s205 (fun z208 s207 => ((z206 = 0 → (W_plus_22 l1 l2 z206 s207 Q)) ∧ (¬ (z206 = 0) → ((¬ (z208 = 0) → ((¬ (z206 = z208) → (W_weigh l1 l2 s207 (fun z213 s212 => ((z213 < 0 → (∀ v415 : Int, v415 = (if 0 ≤ z208 then 0 else 1) → (W_joined l2 l1 0 v415 s212 (fun z418 s417 => (W_plus_104 z418 s417 Q))))) ∧ (¬ (z213 < 0) → (∀ v619 : Int, v619 = (if 0 ≤ z206 then 0 else 1) → (W_joined l1 l2 0 v619 s212 (fun z622 s621 => (W_plus_104 z622 s621 Q))))))))) ∧ (z206 = z208 → (∀ v823 : Int, v823 = (if 0 ≤ z206 then 0 else 1) → (W_joined l1 l2 1 v823 s207 (fun z826 s825 => (Q z826 s825))))))) ∧ (z208 = 0 → (W_plus_22 l1 l2 z206 s207 Q)))))))))
set_option maxRecDepth 16384 in
theorem w_plus (L : Nat) (ys : Nat → Int32) (d : Nat) (s : im_S) (hv : vI s) (l1 : Int) (l1r : iR l1) (l2 : Int) (l2r : iR l2) (Q : Int → im_S → Prop) (hW : W_plus l1 l2 s Q) : icI gG rm_P L ys 0 (d + 4) 77 [(2, ((582 : Nat) : Int)), (0, l1), (0, l2)] s (fun z9 s9 => vI s9 ∧ iR z9 ∧ Q z9 s9) := by
  refine ic_startM (M := rm_p_X10_plus) om_X10_plus (Nat.le_of_ble_eq_true rfl) ?_
  refine ir_w [(0, (2, ((582 : Nat) : Int))), (1, (0, l1)), (2, (0, l2))] ⟨rfl, rfl, rfl, trivial⟩ ?_
  have J104 : ∀ (k0 : Int) (k0r : iR k0) (s : im_S) (hv : vI s), W_plus_104 k0 s Q → ir gG rm_P L ys (d + 3) rm_p_X10_plus (104, [], [(0, k0)], s) (fun r : im_Re => ∃ z, r.1 = some (0, z) ∧ (vI r.2 ∧ iR z ∧ Q z r.2)) := by
    intro k0 k0r s hv hW
    unfold W_plus_104 at hW
    exact ir_iret rfl rfl ⟨_, rfl, hv, k0r, hW⟩
  have J22 : ∀ (l1 : Int) (l1r : iR l1) (l2 : Int) (l2r : iR l2) (l3 : Int) (l3r : iR l3) (s : im_S) (hv : vI s), W_plus_22 l1 l2 l3 s Q → ir gG rm_P L ys (d + 3) rm_p_X10_plus (22, [(0, (2, ((582 : Nat) : Int))), (1, (0, l1)), (2, (0, l2)), (3, (0, l3))], [], s) (fun r : im_Re => ∃ z, r.1 = some (0, z) ∧ (vI r.2 ∧ iR z ∧ Q z r.2)) := by
    intro l1 l1r l2 l2r l3 l3r s hv hW
    unfold W_plus_22 at hW
    refine ir_l (pc' := 23) rfl rfl rfl rfl rfl rfl ?_
    refine ir_l (pc' := 24) rfl rfl rfl rfl rfl rfl ?_
    have J202 : ∀ v201 : Int, iR v201 → ((W_again v201 s (fun z204 s203 => (Q z204 s203)))) → ir gG rm_P L ys (d + 3) rm_p_X10_plus (32, [], [(0, v201), (2, ((582 : Nat) : Int))], s) (fun r : im_Re => ∃ z, r.1 = some (0, z) ∧ (vI r.2 ∧ iR z ∧ Q z r.2)) := by
      intro v201 v201r hW
      refine ir_cVI (pc' := 35) rfl rfl rfl rfl rfl (Nat.le_of_ble_eq_true rfl) oo_X10_again vg_582 (w_again L ys d s hv v201 v201r _ hW) (fun z204 s203 hr => ?_)
      obtain ⟨s203v, z204r, hW⟩ := hr
      exact ir_iret rfl rfl ⟨_, rfl, s203v, z204r, hW⟩
    refine ir_z_ne (pt := 31) (pc' := 27) rfl rfl rfl (fun c1 => ?_) (fun c1 => ?_)
    · refine ir_l (pc' := 32) rfl rfl rfl rfl rfl rfl ?_
      refine ir_w [] trivial ?_
      exact J202 l1 l1r (hW _ (by rw [if_pos c1]))
    · refine ir_l (pc' := 28) rfl rfl rfl rfl rfl rfl ?_
      refine ir_goto (pc' := 32) rfl rfl ?_
      refine ir_w [] trivial ?_
      exact J202 l2 l2r (hW _ (by rw [if_neg (by omega)]))
  unfold W_plus at hW
  refine ir_l (pc' := 1) rfl rfl rfl rfl rfl rfl ?_
  refine ir_l (pc' := 2) rfl rfl rfl rfl rfl rfl ?_
  refine ir_cVI (pc' := 5) rfl rfl rfl rfl rfl (Nat.le_of_ble_eq_true rfl) oo_X10_sgn vg_582 (w_sgn L ys (d + 2) s hv l1 l1r _ hW) (fun z206 s205 hr => ?_)
  obtain ⟨s205v, z206r, hW⟩ := hr
  refine ir_s (pc' := 6) rfl rfl rfl rfl rfl rfl ?_
  refine ir_l (pc' := 7) rfl rfl rfl rfl rfl rfl ?_
  refine ir_l (pc' := 8) rfl rfl rfl rfl rfl rfl ?_
  refine ir_cVI (pc' := 11) rfl rfl rfl rfl rfl (Nat.le_of_ble_eq_true rfl) oo_X10_sgn vg_582 (w_sgn L ys (d + 2) s205 s205v l2 l2r _ hW) (fun z208 s207 hr => ?_)
  obtain ⟨s207v, z208r, hW⟩ := hr
  refine ir_s (pc' := 13) rfl rfl rfl rfl rfl rfl ?_
  refine ir_l (pc' := 14) rfl rfl rfl rfl rfl rfl ?_
  refine ir_z_eq (pt := 22) (pc' := 17) rfl rfl rfl (fun c209 => ?_) (fun c209 => ?_)
  · have hW := hW.1 c209
    refine ir_w [(0, (2, ((582 : Nat) : Int))), (1, (0, l1)), (2, (0, l2)), (3, (0, z206))] ⟨rfl, rfl, rfl, rfl, trivial⟩ ?_
    exact J22 l1 l1r l2 l2r z206 z206r s207 s207v hW
  · have hW := hW.2 c209
    refine ir_l (pc' := 19) rfl rfl rfl rfl rfl rfl ?_
    refine ir_z_ne (pt := 36) (pc' := 22) rfl rfl rfl (fun c210 => ?_) (fun c210 => ?_)
    · have hW := hW.1 c210
      refine ir_l (pc' := 37) rfl rfl rfl rfl rfl rfl ?_
      refine ir_l (pc' := 39) rfl rfl rfl rfl rfl rfl ?_
      refine ir_c_ne (pt := 59) (pc' := 42) rfl rfl rfl (fun c211 => ?_) (fun c211 => ?_)
      · have hW := hW.1 c211
        refine ir_l (pc' := 60) rfl rfl rfl rfl rfl rfl ?_
        refine ir_l (pc' := 61) rfl rfl rfl rfl rfl rfl ?_
        refine ir_l (pc' := 62) rfl rfl rfl rfl rfl rfl ?_
        refine ir_cVI (pc' := 65) rfl rfl rfl rfl rfl (Nat.le_of_ble_eq_true rfl) oo_X10_weigh vg_582 (w_weigh L ys (d + 1) s207 s207v l1 l1r l2 l2r _ hW) (fun z213 s212 hr => ?_)
        obtain ⟨s212v, z213r, hW⟩ := hr
        refine ir_z_lt (pt := 87) (pc' := 68) rfl rfl rfl (fun c214 => ?_) (fun c214 => ?_)
        · have hW := hW.1 c214
          refine ir_l (pc' := 88) rfl rfl rfl rfl rfl rfl ?_
          refine ir_l (pc' := 89) rfl rfl rfl rfl rfl rfl ?_
          refine ir_l (pc' := 90) rfl rfl rfl rfl rfl rfl ?_
          refine ir_k (pc' := 91) (v := (0, 0)) rfl rfl rfl (fun _ => rfl) ?_
          refine ir_l (pc' := 93) rfl rfl rfl rfl rfl rfl ?_
          have J416 : ∀ v415 : Int, zR v415 → ((W_joined l2 l1 0 v415 s212 (fun z418 s417 => (W_plus_104 z418 s417 Q)))) → ir gG rm_P L ys (d + 3) rm_p_X10_plus (101, [], [(0, v415), (0, 0), (0, l1), (0, l2), (2, ((582 : Nat) : Int))], s212) (fun r : im_Re => ∃ z, r.1 = some (0, z) ∧ (vI r.2 ∧ iR z ∧ Q z r.2)) := by
            intro v415 v415r hW
            refine ir_cVI (pc' := 104) rfl rfl rfl rfl rfl (Nat.le_of_ble_eq_true rfl) oo_X10_joined vg_582 (w_joined L ys (d + 1) s212 s212v l2 l2r l1 l1r 0 (Or.inl rfl) v415 v415r _ hW) (fun z418 s417 hr => ?_)
            obtain ⟨s417v, z418r, hW⟩ := hr
            refine ir_w [] trivial ?_
            exact J104 z418 z418r s417 s417v hW
          refine ir_z_ge (pt := 100) (pc' := 96) rfl rfl rfl (fun c215 => ?_) (fun c215 => ?_)
          · refine ir_k (pc' := 101) (v := (0, 0)) rfl rfl rfl (fun _ => rfl) ?_
            refine ir_w [] trivial ?_
            exact J416 0 (Or.inl rfl) (hW _ (by rw [if_pos c215]))
          · refine ir_k (pc' := 97) (v := (0, 1)) rfl rfl rfl (fun _ => rfl) ?_
            refine ir_goto (pc' := 101) rfl rfl ?_
            refine ir_w [] trivial ?_
            exact J416 1 (Or.inr rfl) (hW _ (by rw [if_neg (fun z => c215 z)]))
        · have hW := hW.2 c214
          refine ir_l (pc' := 69) rfl rfl rfl rfl rfl rfl ?_
          refine ir_l (pc' := 70) rfl rfl rfl rfl rfl rfl ?_
          refine ir_l (pc' := 71) rfl rfl rfl rfl rfl rfl ?_
          refine ir_k (pc' := 72) (v := (0, 0)) rfl rfl rfl (fun _ => rfl) ?_
          refine ir_l (pc' := 73) rfl rfl rfl rfl rfl rfl ?_
          have J620 : ∀ v619 : Int, zR v619 → ((W_joined l1 l2 0 v619 s212 (fun z622 s621 => (W_plus_104 z622 s621 Q)))) → ir gG rm_P L ys (d + 3) rm_p_X10_plus (81, [], [(0, v619), (0, 0), (0, l2), (0, l1), (2, ((582 : Nat) : Int))], s212) (fun r : im_Re => ∃ z, r.1 = some (0, z) ∧ (vI r.2 ∧ iR z ∧ Q z r.2)) := by
            intro v619 v619r hW
            refine ir_cVI (pc' := 84) rfl rfl rfl rfl rfl (Nat.le_of_ble_eq_true rfl) oo_X10_joined vg_582 (w_joined L ys (d + 1) s212 s212v l1 l1r l2 l2r 0 (Or.inl rfl) v619 v619r _ hW) (fun z622 s621 hr => ?_)
            obtain ⟨s621v, z622r, hW⟩ := hr
            refine ir_goto (pc' := 104) rfl rfl ?_
            refine ir_w [] trivial ?_
            exact J104 z622 z622r s621 s621v hW
          refine ir_z_ge (pt := 80) (pc' := 76) rfl rfl rfl (fun c419 => ?_) (fun c419 => ?_)
          · refine ir_k (pc' := 81) (v := (0, 0)) rfl rfl rfl (fun _ => rfl) ?_
            refine ir_w [] trivial ?_
            exact J620 0 (Or.inl rfl) (hW _ (by rw [if_pos c419]))
          · refine ir_k (pc' := 77) (v := (0, 1)) rfl rfl rfl (fun _ => rfl) ?_
            refine ir_goto (pc' := 81) rfl rfl ?_
            refine ir_w [] trivial ?_
            exact J620 1 (Or.inr rfl) (hW _ (by rw [if_neg (fun z => c419 z)]))
      · have hW := hW.2 c211
        refine ir_l (pc' := 43) rfl rfl rfl rfl rfl rfl ?_
        refine ir_l (pc' := 44) rfl rfl rfl rfl rfl rfl ?_
        refine ir_l (pc' := 45) rfl rfl rfl rfl rfl rfl ?_
        refine ir_k (pc' := 46) (v := (0, 1)) rfl rfl rfl (fun _ => rfl) ?_
        refine ir_l (pc' := 47) rfl rfl rfl rfl rfl rfl ?_
        have J824 : ∀ v823 : Int, zR v823 → ((W_joined l1 l2 1 v823 s207 (fun z826 s825 => (Q z826 s825)))) → ir gG rm_P L ys (d + 3) rm_p_X10_plus (55, [], [(0, v823), (0, 1), (0, l2), (0, l1), (2, ((582 : Nat) : Int))], s207) (fun r : im_Re => ∃ z, r.1 = some (0, z) ∧ (vI r.2 ∧ iR z ∧ Q z r.2)) := by
          intro v823 v823r hW
          refine ir_cVI (pc' := 58) rfl rfl rfl rfl rfl (Nat.le_of_ble_eq_true rfl) oo_X10_joined vg_582 (w_joined L ys (d + 1) s207 s207v l1 l1r l2 l2r 1 (Or.inr rfl) v823 v823r _ hW) (fun z826 s825 hr => ?_)
          obtain ⟨s825v, z826r, hW⟩ := hr
          exact ir_iret rfl rfl ⟨_, rfl, s825v, z826r, hW⟩
        refine ir_z_ge (pt := 54) (pc' := 50) rfl rfl rfl (fun c623 => ?_) (fun c623 => ?_)
        · refine ir_k (pc' := 55) (v := (0, 0)) rfl rfl rfl (fun _ => rfl) ?_
          refine ir_w [] trivial ?_
          exact J824 0 (Or.inl rfl) (hW _ (by rw [if_pos c623]))
        · refine ir_k (pc' := 51) (v := (0, 1)) rfl rfl rfl (fun _ => rfl) ?_
          refine ir_goto (pc' := 55) rfl rfl ?_
          refine ir_w [] trivial ?_
          exact J824 1 (Or.inr rfl) (hW _ (by rw [if_neg (fun z => c623 z)]))
    · have hW := hW.2 c210
      refine ir_w [(0, (2, ((582 : Nat) : Int))), (1, (0, l1)), (2, (0, l2)), (3, (0, z206))] ⟨rfl, rfl, rfl, rfl, trivial⟩ ?_
      exact J22 l1 l1r l2 l2r z206 z206r s207 s207v hW
def W_keep (l1 : Int) (l2 : Int) (s : im_S) (Q : Int → im_S → Prop) : Prop := (W_copyTo l2 l1 s (fun s1 => (W_limbs l1 s1 (fun z4 s3 => ((iR (l1 + z4)) ∧ (iR ((l1 + z4) + 1)) ∧ (∀ s7, s7 = wpf s3 24 ((l1 + z4) + 1) → (Q l1 s7)))))))
set_option maxRecDepth 16384 in
theorem w_keep (L : Nat) (ys : Nat → Int32) (d : Nat) (s : im_S) (hv : vI s) (l1 : Int) (l1r : iR l1) (l2 : Int) (l2r : iR l2) (Q : Int → im_S → Prop) (hW : W_keep l1 l2 s Q) : icI gG rm_P L ys 0 (d + 3) 62 [(2, ((582 : Nat) : Int)), (0, l1), (0, l2)] s (fun z9 s9 => vI s9 ∧ iR z9 ∧ Q z9 s9) := by
  refine ic_startM (M := rm_p_X10_keep) om_X10_keep (Nat.le_of_ble_eq_true rfl) ?_
  refine ir_w [(0, (2, ((582 : Nat) : Int))), (1, (0, l1)), (2, (0, l2))] ⟨rfl, rfl, rfl, trivial⟩ ?_
  unfold W_keep at hW
  refine ir_l (pc' := 1) rfl rfl rfl rfl rfl rfl ?_
  refine ir_l (pc' := 2) rfl rfl rfl rfl rfl rfl ?_
  refine ir_l (pc' := 3) rfl rfl rfl rfl rfl rfl ?_
  refine ir_cVV (pc' := 6) rfl rfl rfl rfl rfl (Nat.le_of_ble_eq_true rfl) oo_X10_copyTo vg_582 (w_copyTo L ys d s hv l2 l2r l1 l1r _ hW) (fun s1 hr => ?_)
  obtain ⟨s1v, hW⟩ := hr
  refine ir_l (pc' := 7) rfl rfl rfl rfl rfl rfl ?_
  refine ir_l (pc' := 8) rfl rfl rfl rfl rfl rfl ?_
  refine ir_l (pc' := 9) rfl rfl rfl rfl rfl rfl ?_
  refine ir_l (pc' := 10) rfl rfl rfl rfl rfl rfl ?_
  refine ir_cVI (pc' := 13) rfl rfl rfl rfl rfl (Nat.le_of_ble_eq_true rfl) oo_X10_limbs vg_582 (w_limbs L ys (d + 1) s1 s1v l1 l1r _ hW) (fun z4 s3 hr => ?_)
  obtain ⟨s3v, z4r, hW⟩ := hr
  obtain ⟨h5, h6, hW⟩ := hW
  refine ir_add (pc' := 14) rfl rfl h5.1 h5.2 ?_
  refine ir_k (pc' := 15) (v := (0, 1)) rfl rfl rfl (fun _ => rfl) ?_
  refine ir_add (pc' := 16) rfl rfl h6.1 h6.2 ?_
  refine ir_vpi (pc' := 19) rfl rfl rfl rfl rfl rfl rfl s3v h6 (fun s7 s7e s7v => ?_)
  have hW := hW s7 s7e
  refine ir_l (pc' := 20) rfl rfl rfl rfl rfl rfl ?_
  exact ir_iret rfl rfl ⟨_, rfl, s7v, l1r, hW⟩
def W_powerOfTwo_14 (K14 : Int × Int × im_S → Prop) (l1 : Int) (l2 : Int) (l3 : Int) (l4 : Int) (s : im_S) (Q : Int → im_S → Prop) : Prop := ((l1 ≤ l4 → (W_keep l2 l3 s (fun z3 s2 => (Q z3 s2)))) ∧ (¬ (l1 ≤ l4) → ((iR (l1 - l4)) ∧ (∀ v205 : Int, v205 = (if 20 ≤ (l1 - l4) then 20 else (l1 - l4)) → ((0 ≤ v205 ∧ v205 < 62) ∧ (W_whole (2 ^ (v205).toNat) s (fun z209 s208 => (W_by l3 z209 s208 (fun z211 s210 => ((iR (l4 + 20)) ∧ (K14 (z211, (l4 + 20), s210))))))))))))
def W_powerOfTwo (l1 : Int) (s : im_S) (Q : Int → im_S → Prop) : Prop := (W_whole 1 s (fun z215 s214 => (wloop (fun (K : Int × Int × im_S → Prop) (a : Int × Int × im_S) => W_powerOfTwo_14 K l1 (wgf s 24) a.1 a.2.1 a.2.2 Q) (z215, 0, s214))))
set_option maxRecDepth 16384 in
theorem w_powerOfTwo (L : Nat) (ys : Nat → Int32) (d : Nat) (s : im_S) (hv : vI s) (l1 : Int) (l1r : iR l1) (Q : Int → im_S → Prop) (hW : W_powerOfTwo l1 s Q) : icI gG rm_P L ys 0 (d + 4) 80 [(2, ((582 : Nat) : Int)), (0, l1)] s (fun z9 s9 => vI s9 ∧ iR z9 ∧ Q z9 s9) := by
  refine ic_startM (M := rm_p_X10_powerOfTwo) om_X10_powerOfTwo (Nat.le_of_ble_eq_true rfl) ?_
  refine ir_w [(0, (2, ((582 : Nat) : Int))), (1, (0, l1))] ⟨rfl, rfl, trivial⟩ ?_
  have J14 : ∀ (l1 : Int) (l1r : iR l1) (l2 : Int) (l2r : iR l2) (I14 : Int × Int × im_S → Prop) (r14 : Int × Int × im_S → Nat) (hB14 : ∀ a : Int × Int × im_S, I14 a → W_powerOfTwo_14 (fun b => I14 b ∧ r14 b < r14 a) l1 l2 a.1 a.2.1 a.2.2 Q), ∀ n14 : Nat, ∀ (l3 : Int) (l3r : iR l3) (l4 : Int) (l4r : iR l4) (s : im_S) (hv : vI s), I14 (l3, l4, s) → r14 (l3, l4, s) < n14 → ir gG rm_P L ys (d + 3) rm_p_X10_powerOfTwo (14, [(0, (2, ((582 : Nat) : Int))), (1, (0, l1)), (2, (0, l2)), (3, (0, l3)), (4, (0, l4))], [], s) (fun r : im_Re => ∃ z, r.1 = some (0, z) ∧ (vI r.2 ∧ iR z ∧ Q z r.2)) := by
    intro l1 l1r l2 l2r I14 r14 hB14 n14
    induction n14 with
    | zero => intro l3 l3r l4 l4r s hv hI hr; exact absurd hr (Nat.not_lt_zero _)
    | succ n14 ih14 =>
      intro l3 l3r l4 l4r s hv hI hr14
      obtain ⟨t14, ht14⟩ : ∃ t14 : Int × Int × im_S, t14 = (l3, l4, s) := ⟨_, rfl⟩
      rw [← ht14] at hr14
      have hW : W_powerOfTwo_14 (fun b => I14 b ∧ r14 b < r14 t14) l1 l2 l3 l4 s Q := by have z := hB14 (l3, l4, s) hI; rw [ht14]; exact z
      unfold W_powerOfTwo_14 at hW
      refine ir_l (pc' := 16) rfl rfl rfl rfl rfl rfl ?_
      refine ir_l (pc' := 17) rfl rfl rfl rfl rfl rfl ?_
      refine ir_c_ge (pt := 56) (pc' := 20) rfl rfl rfl (fun c1 => ?_) (fun c1 => ?_)
      · have hW := hW.1 c1
        refine ir_l (pc' := 57) rfl rfl rfl rfl rfl rfl ?_
        refine ir_l (pc' := 58) rfl rfl rfl rfl rfl rfl ?_
        refine ir_l (pc' := 59) rfl rfl rfl rfl rfl rfl ?_
        refine ir_cVI (pc' := 62) rfl rfl rfl rfl rfl (Nat.le_of_ble_eq_true rfl) oo_X10_keep vg_582 (w_keep L ys d s hv l2 l2r l3 l3r _ hW) (fun z3 s2 hr => ?_)
        obtain ⟨s2v, z3r, hW⟩ := hr
        exact ir_iret rfl rfl ⟨_, rfl, s2v, z3r, hW⟩
      · have hW := hW.2 c1
        obtain ⟨h4, hW⟩ := hW
        refine ir_l (pc' := 21) rfl rfl rfl rfl rfl rfl ?_
        refine ir_l (pc' := 22) rfl rfl rfl rfl rfl rfl ?_
        refine ir_l (pc' := 23) rfl rfl rfl rfl rfl rfl ?_
        refine ir_k (pc' := 24) (v := (1, 1)) rfl rfl rfl (fun _ => rfl) ?_
        refine ir_l (pc' := 25) rfl rfl rfl rfl rfl rfl ?_
        refine ir_l (pc' := 27) rfl rfl rfl rfl rfl rfl ?_
        refine ir_sub (pc' := 28) rfl rfl h4.1 h4.2 ?_
        refine ir_k (pc' := 30) (v := (0, 20)) rfl rfl rfl (fun _ => rfl) ?_
        have J206 : ∀ v205 : Int, iR v205 → (((0 ≤ v205 ∧ v205 < 62) ∧ (W_whole (2 ^ (v205).toNat) s (fun z209 s208 => (W_by l3 z209 s208 (fun z211 s210 => ((iR (l4 + 20)) ∧ ((fun b => I14 b ∧ r14 b < r14 t14) (z211, (l4 + 20), s210))))))))) → ir gG rm_P L ys (d + 3) rm_p_X10_powerOfTwo (42, [(0, (2, ((582 : Nat) : Int))), (1, (0, l1)), (2, (0, l2)), (4, (0, l4))], [(0, v205), (1, 1), (2, ((582 : Nat) : Int)), (0, l3), (2, ((582 : Nat) : Int))], s) (fun r : im_Re => ∃ z, r.1 = some (0, z) ∧ (vI r.2 ∧ iR z ∧ Q z r.2)) := by
          intro v205 v205r hW
          obtain ⟨h207, hW⟩ := hW
          refine ir_vshl (pc' := 43) rfl rfl h207.1 h207.2 ?_
          refine ir_cVI (pc' := 46) rfl rfl rfl rfl rfl (Nat.le_of_ble_eq_true rfl) oo_X10_whole vg_582 (w_whole L ys (d + 2) s hv (2 ^ (v205).toNat) (w_p2 h207.1 h207.2) _ hW) (fun z209 s208 hr => ?_)
          obtain ⟨s208v, z209r, hW⟩ := hr
          refine ir_cVI (pc' := 49) rfl rfl rfl rfl rfl (Nat.le_of_ble_eq_true rfl) oo_X10_by vg_582 (w_by L ys (d + 1) s208 s208v l3 l3r z209 z209r _ hW) (fun z211 s210 hr => ?_)
          obtain ⟨s210v, z211r, hW⟩ := hr
          obtain ⟨h212, hW⟩ := hW
          refine ir_s (pc' := 50) rfl rfl rfl rfl rfl rfl ?_
          refine ir_inc (pc' := 53) rfl rfl rfl rfl rfl h212.1 h212.2 ?_
          refine ir_goto (pc' := 14) rfl rfl ?_
          refine ir_w [(0, (2, ((582 : Nat) : Int))), (1, (0, l1)), (2, (0, l2)), (3, (0, z211)), (4, (0, (l4 + 20)))] ⟨rfl, rfl, rfl, rfl, rfl, trivial⟩ ?_
          exact ih14 z211 z211r (l4 + 20) h212 s210 s210v hW.1 (Nat.lt_of_lt_of_le hW.2 (Nat.le_of_lt_succ hr14))
        refine ir_c_ge (pt := 40) (pc' := 33) rfl rfl rfl (fun c5 => ?_) (fun c5 => ?_)
        · refine ir_k (pc' := 42) (v := (0, 20)) rfl rfl rfl (fun _ => rfl) ?_
          refine ir_w [(0, (2, ((582 : Nat) : Int))), (1, (0, l1)), (2, (0, l2)), (4, (0, l4))] ⟨rfl, rfl, rfl, rfl, trivial⟩ ?_
          exact J206 20 (⟨by decide, by decide⟩ : iR 20) (hW _ (by rw [if_pos c5]))
        · refine ir_l (pc' := 34) rfl rfl rfl rfl rfl rfl ?_
          refine ir_l (pc' := 36) rfl rfl rfl rfl rfl rfl ?_
          refine ir_sub (pc' := 37) rfl rfl h4.1 h4.2 ?_
          refine ir_goto (pc' := 42) rfl rfl ?_
          refine ir_w [(0, (2, ((582 : Nat) : Int))), (1, (0, l1)), (2, (0, l2)), (4, (0, l4))] ⟨rfl, rfl, rfl, rfl, trivial⟩ ?_
          exact J206 (l1 - l4) h4 (hW _ (by rw [if_neg (fun z => c5 z)]))
  unfold W_powerOfTwo at hW
  refine ir_l (pc' := 1) rfl rfl rfl rfl rfl rfl ?_
  refine ir_vgi (pc' := 4) rfl rfl rfl rfl rfl hv (fun r213 => ?_)
  refine ir_s (pc' := 5) rfl rfl rfl rfl rfl rfl ?_
  refine ir_l (pc' := 6) rfl rfl rfl rfl rfl rfl ?_
  refine ir_k (pc' := 7) (v := (1, 1)) rfl rfl rfl (fun _ => rfl) ?_
  refine ir_cVI (pc' := 10) rfl rfl rfl rfl rfl (Nat.le_of_ble_eq_true rfl) oo_X10_whole vg_582 (w_whole L ys (d + 2) s hv 1 (⟨by decide, by decide⟩ : lR 1) _ hW) (fun z215 s214 hr => ?_)
  obtain ⟨s214v, z215r, hW⟩ := hr
  refine ir_s (pc' := 11) rfl rfl rfl rfl rfl rfl ?_
  refine ir_k (pc' := 12) (v := (0, 0)) rfl rfl rfl (fun _ => rfl) ?_
  refine ir_s (pc' := 14) rfl rfl rfl rfl rfl rfl ?_
  refine ir_w [(0, (2, ((582 : Nat) : Int))), (1, (0, l1)), (2, (0, (wgf s 24))), (3, (0, z215)), (4, (0, 0))] ⟨rfl, rfl, rfl, rfl, rfl, trivial⟩ ?_
  obtain ⟨I9, r9, hI9, hB9⟩ := hW
  exact J14 l1 l1r (wgf s 24) r213 I9 r9 hB9 _ z215 z215r 0 (zR_i (Or.inl rfl)) s214 s214v hI9 (Nat.lt_succ_self _)
def W_at (l1 : Int) (l2 : Int) (s : im_S) (Q : Int → im_S → Prop) : Prop := ((iR (9 * l1)) ∧ (0 ≤ ((9 * l1) + l2) ∧ ((9 * l1) + l2) < 10800) ∧ (Q (wga s 599 ((9 * l1) + l2)) s))
set_option maxRecDepth 16384 in
theorem w_at (L : Nat) (ys : Nat → Int32) (d : Nat) (s : im_S) (hv : vI s) (l1 : Int) (l1r : iR l1) (l2 : Int) (l2r : iR l2) (Q : Int → im_S → Prop) (hW : W_at l1 l2 s Q) : icI gG rm_P L ys 0 (d + 1) 10 [(2, ((582 : Nat) : Int)), (0, l1), (0, l2)] s (fun z9 s9 => vI s9 ∧ iR z9 ∧ Q z9 s9) := by
  refine ic_startM (M := rm_p_X10_at) om_X10_at (Nat.le_of_ble_eq_true rfl) ?_
  refine ir_w [(0, (2, ((582 : Nat) : Int))), (1, (0, l1)), (2, (0, l2))] ⟨rfl, rfl, rfl, trivial⟩ ?_
  unfold W_at at hW
  obtain ⟨h1, h3, hW⟩ := hW
  have h2 : iR ((9 * l1) + l2) := ⟨by omega, by omega⟩
  refine ir_l (pc' := 1) rfl rfl rfl rfl rfl rfl ?_
  refine ir_vgr (pc' := 4) (c := 599) rfl rfl rfl rfl rfl hv ?_
  refine ir_k (pc' := 6) (v := (0, 9)) rfl rfl rfl (fun _ => rfl) ?_
  refine ir_l (pc' := 7) rfl rfl rfl rfl rfl rfl ?_
  refine ir_mul (pc' := 8) rfl rfl h1.1 h1.2 ?_
  refine ir_l (pc' := 9) rfl rfl rfl rfl rfl rfl ?_
  refine ir_add (pc' := 10) rfl rfl h2.1 h2.2 ?_
  refine ir_via (pc' := 11) rfl rfl vg_599 rfl (Nat.le_of_ble_eq_true rfl) hv rfl h3 (fun r4 => ?_)
  exact ir_iret rfl rfl ⟨_, rfl, hv, r4, hW⟩
def W_signAt2_36 (K36 : Int × Int × Int × im_S → Prop) (l1 : Int) (l2 : Int) (l3 : Int) (l4 : Int) (l5 : Int) (l6 : Int) (l7 : Int) (s : im_S) (Q : Int → im_S → Prop) : Prop := ((l7 < 0 → (W_sgn l5 s (fun z3 s2 => (∀ s4, s4 = wpf s2 24 l4 → (Q z3 s4))))) ∧ (¬ (l7 < 0) → (W_by l6 l3 s (fun z6 s5 => (W_by l5 l2 s5 (fun z8 s7 => (W_at l1 l7 s7 (fun z10 s9 => (W_by z10 z6 s9 (fun z12 s11 => (W_plus z8 z12 s11 (fun z14 s13 => ((iR (l7 + (-1))) ∧ (K36 (z14, z6, (l7 + (-1)), s13)))))))))))))))
def W_signAt2 (l1 : Int) (l2 : Int) (l3 : Int) (s : im_S) (Q : Int → im_S → Prop) : Prop := ((0 ≤ l1 ∧ l1 < 1200) ∧ (W_at l1 (wga s 598 l1) s (fun z20 s19 => (W_whole 1 s19 (fun z22 s21 => ((0 ≤ l1 ∧ l1 < 1200) ∧ (iR ((wga s21 598 l1) - 1)) ∧ (wloop (fun (K : Int × Int × Int × im_S → Prop) (a : Int × Int × Int × im_S) => W_signAt2_36 K l1 l2 l3 (wgf s 24) a.1 a.2.1 a.2.2.1 a.2.2.2 Q) (z20, z22, ((wga s21 598 l1) - 1), s21))))))))
set_option maxRecDepth 16384 in
theorem w_signAt2 (L : Nat) (ys : Nat → Int32) (d : Nat) (s : im_S) (hv : vI s) (l1 : Int) (l1r : iR l1) (l2 : Int) (l2r : iR l2) (l3 : Int) (l3r : iR l3) (Q : Int → im_S → Prop) (hW : W_signAt2 l1 l2 l3 s Q) : icI gG rm_P L ys 0 (d + 5) 97 [(2, ((582 : Nat) : Int)), (0, l1), (0, l2), (0, l3)] s (fun z9 s9 => vI s9 ∧ iR z9 ∧ Q z9 s9) := by
  refine ic_startM (M := rm_p_X10_signAt2) om_X10_signAt2 (Nat.le_of_ble_eq_true rfl) ?_
  refine ir_w [(0, (2, ((582 : Nat) : Int))), (1, (0, l1)), (2, (0, l2)), (3, (0, l3))] ⟨rfl, rfl, rfl, rfl, trivial⟩ ?_
  have J36 : ∀ (l1 : Int) (l1r : iR l1) (l2 : Int) (l2r : iR l2) (l3 : Int) (l3r : iR l3) (l4 : Int) (l4r : iR l4) (I36 : Int × Int × Int × im_S → Prop) (r36 : Int × Int × Int × im_S → Nat) (hB36 : ∀ a : Int × Int × Int × im_S, I36 a → W_signAt2_36 (fun b => I36 b ∧ r36 b < r36 a) l1 l2 l3 l4 a.1 a.2.1 a.2.2.1 a.2.2.2 Q), ∀ n36 : Nat, ∀ (l5 : Int) (l5r : iR l5) (l6 : Int) (l6r : iR l6) (l7 : Int) (l7r : iR l7) (s : im_S) (hv : vI s), I36 (l5, l6, l7, s) → r36 (l5, l6, l7, s) < n36 → ir gG rm_P L ys (d + 4) rm_p_X10_signAt2 (36, [(0, (2, ((582 : Nat) : Int))), (1, (0, l1)), (2, (0, l2)), (3, (0, l3)), (4, (0, l4)), (5, (0, l5)), (6, (0, l6)), (7, (0, l7))], [], s) (fun r : im_Re => ∃ z, r.1 = some (0, z) ∧ (vI r.2 ∧ iR z ∧ Q z r.2)) := by
    intro l1 l1r l2 l2r l3 l3r l4 l4r I36 r36 hB36 n36
    induction n36 with
    | zero => intro l5 l5r l6 l6r l7 l7r s hv hI hr; exact absurd hr (Nat.not_lt_zero _)
    | succ n36 ih36 =>
      intro l5 l5r l6 l6r l7 l7r s hv hI hr36
      obtain ⟨t36, ht36⟩ : ∃ t36 : Int × Int × Int × im_S, t36 = (l5, l6, l7, s) := ⟨_, rfl⟩
      rw [← ht36] at hr36
      have hW : W_signAt2_36 (fun b => I36 b ∧ r36 b < r36 t36) l1 l2 l3 l4 l5 l6 l7 s Q := by have z := hB36 (l5, l6, l7, s) hI; rw [ht36]; exact z
      unfold W_signAt2_36 at hW
      refine ir_l (pc' := 38) rfl rfl rfl rfl rfl rfl ?_
      refine ir_z_lt (pt := 82) (pc' := 41) rfl rfl rfl (fun c1 => ?_) (fun c1 => ?_)
      · have hW := hW.1 c1
        refine ir_l (pc' := 83) rfl rfl rfl rfl rfl rfl ?_
        refine ir_l (pc' := 85) rfl rfl rfl rfl rfl rfl ?_
        refine ir_cVI (pc' := 88) rfl rfl rfl rfl rfl (Nat.le_of_ble_eq_true rfl) oo_X10_sgn vg_582 (w_sgn L ys (d + 3) s hv l5 l5r _ hW) (fun z3 s2 hr => ?_)
        obtain ⟨s2v, z3r, hW⟩ := hr
        refine ir_s (pc' := 90) rfl rfl rfl rfl rfl rfl ?_
        refine ir_l (pc' := 91) rfl rfl rfl rfl rfl rfl ?_
        refine ir_l (pc' := 93) rfl rfl rfl rfl rfl rfl ?_
        refine ir_vpi (pc' := 96) rfl rfl rfl rfl rfl rfl rfl s2v l4r (fun s4 s4e s4v => ?_)
        have hW := hW s4 s4e
        refine ir_l (pc' := 98) rfl rfl rfl rfl rfl rfl ?_
        exact ir_iret rfl rfl ⟨_, rfl, s4v, z3r, hW⟩
      · have hW := hW.2 c1
        refine ir_l (pc' := 42) rfl rfl rfl rfl rfl rfl ?_
        refine ir_l (pc' := 44) rfl rfl rfl rfl rfl rfl ?_
        refine ir_l (pc' := 45) rfl rfl rfl rfl rfl rfl ?_
        refine ir_cVI (pc' := 48) rfl rfl rfl rfl rfl (Nat.le_of_ble_eq_true rfl) oo_X10_by vg_582 (w_by L ys (d + 2) s hv l6 l6r l3 l3r _ hW) (fun z6 s5 hr => ?_)
        obtain ⟨s5v, z6r, hW⟩ := hr
        refine ir_s (pc' := 50) rfl rfl rfl rfl rfl rfl ?_
        refine ir_l (pc' := 51) rfl rfl rfl rfl rfl rfl ?_
        refine ir_l (pc' := 52) rfl rfl rfl rfl rfl rfl ?_
        refine ir_l (pc' := 54) rfl rfl rfl rfl rfl rfl ?_
        refine ir_l (pc' := 55) rfl rfl rfl rfl rfl rfl ?_
        refine ir_cVI (pc' := 58) rfl rfl rfl rfl rfl (Nat.le_of_ble_eq_true rfl) oo_X10_by vg_582 (w_by L ys (d + 2) s5 s5v l5 l5r l2 l2r _ hW) (fun z8 s7 hr => ?_)
        obtain ⟨s7v, z8r, hW⟩ := hr
        refine ir_l (pc' := 59) rfl rfl rfl rfl rfl rfl ?_
        refine ir_l (pc' := 60) rfl rfl rfl rfl rfl rfl ?_
        refine ir_l (pc' := 61) rfl rfl rfl rfl rfl rfl ?_
        refine ir_l (pc' := 63) rfl rfl rfl rfl rfl rfl ?_
        refine ir_cVI (pc' := 66) rfl rfl rfl rfl rfl (Nat.le_of_ble_eq_true rfl) oo_X10_at vg_582 (w_at L ys (d + 3) s7 s7v l1 l1r l7 l7r _ hW) (fun z10 s9 hr => ?_)
        obtain ⟨s9v, z10r, hW⟩ := hr
        refine ir_l (pc' := 68) rfl rfl rfl rfl rfl rfl ?_
        refine ir_cVI (pc' := 71) rfl rfl rfl rfl rfl (Nat.le_of_ble_eq_true rfl) oo_X10_by vg_582 (w_by L ys (d + 2) s9 s9v z10 z10r z6 z6r _ hW) (fun z12 s11 hr => ?_)
        obtain ⟨s11v, z12r, hW⟩ := hr
        refine ir_cVI (pc' := 74) rfl rfl rfl rfl rfl (Nat.le_of_ble_eq_true rfl) oo_X10_plus vg_582 (w_plus L ys d s11 s11v z8 z8r z12 z12r _ hW) (fun z14 s13 hr => ?_)
        obtain ⟨s13v, z14r, hW⟩ := hr
        obtain ⟨h15, hW⟩ := hW
        refine ir_s (pc' := 76) rfl rfl rfl rfl rfl rfl ?_
        refine ir_inc (pc' := 79) rfl rfl rfl rfl rfl h15.1 h15.2 ?_
        refine ir_goto (pc' := 36) rfl rfl ?_
        refine ir_w [(0, (2, ((582 : Nat) : Int))), (1, (0, l1)), (2, (0, l2)), (3, (0, l3)), (4, (0, l4)), (5, (0, z14)), (6, (0, z6)), (7, (0, (l7 + (-1))))] ⟨rfl, rfl, rfl, rfl, rfl, rfl, rfl, rfl, trivial⟩ ?_
        exact ih36 z14 z14r z6 z6r (l7 + (-1)) h15 s13 s13v hW.1 (Nat.lt_of_lt_of_le hW.2 (Nat.le_of_lt_succ hr36))
  unfold W_signAt2 at hW
  obtain ⟨h17, hW⟩ := hW
  refine ir_l (pc' := 1) rfl rfl rfl rfl rfl rfl ?_
  refine ir_vgi (pc' := 4) rfl rfl rfl rfl rfl hv (fun r16 => ?_)
  refine ir_s (pc' := 6) rfl rfl rfl rfl rfl rfl ?_
  refine ir_l (pc' := 7) rfl rfl rfl rfl rfl rfl ?_
  refine ir_l (pc' := 8) rfl rfl rfl rfl rfl rfl ?_
  refine ir_l (pc' := 9) rfl rfl rfl rfl rfl rfl ?_
  refine ir_vgr (pc' := 12) (c := 598) rfl rfl rfl rfl rfl hv ?_
  refine ir_l (pc' := 13) rfl rfl rfl rfl rfl rfl ?_
  refine ir_via (pc' := 14) rfl rfl vg_598 rfl (Nat.le_of_ble_eq_true rfl) hv rfl h17 (fun r18 => ?_)
  refine ir_cVI (pc' := 17) rfl rfl rfl rfl rfl (Nat.le_of_ble_eq_true rfl) oo_X10_at vg_582 (w_at L ys (d + 3) s hv l1 l1r (wga s 598 l1) r18 _ hW) (fun z20 s19 hr => ?_)
  obtain ⟨s19v, z20r, hW⟩ := hr
  refine ir_s (pc' := 19) rfl rfl rfl rfl rfl rfl ?_
  refine ir_l (pc' := 20) rfl rfl rfl rfl rfl rfl ?_
  refine ir_k (pc' := 21) (v := (1, 1)) rfl rfl rfl (fun _ => rfl) ?_
  refine ir_cVI (pc' := 24) rfl rfl rfl rfl rfl (Nat.le_of_ble_eq_true rfl) oo_X10_whole vg_582 (w_whole L ys (d + 3) s19 s19v 1 (⟨by decide, by decide⟩ : lR 1) _ hW) (fun z22 s21 hr => ?_)
  obtain ⟨s21v, z22r, hW⟩ := hr
  obtain ⟨h23, h25, hW⟩ := hW
  refine ir_s (pc' := 26) rfl rfl rfl rfl rfl rfl ?_
  refine ir_l (pc' := 27) rfl rfl rfl rfl rfl rfl ?_
  refine ir_vgr (pc' := 30) (c := 598) rfl rfl rfl rfl rfl s21v ?_
  refine ir_l (pc' := 31) rfl rfl rfl rfl rfl rfl ?_
  refine ir_via (pc' := 32) rfl rfl vg_598 rfl (Nat.le_of_ble_eq_true rfl) s21v rfl h23 (fun r24 => ?_)
  refine ir_k (pc' := 33) (v := (0, 1)) rfl rfl rfl (fun _ => rfl) ?_
  refine ir_sub (pc' := 34) rfl rfl h25.1 h25.2 ?_
  refine ir_s (pc' := 36) rfl rfl rfl rfl rfl rfl ?_
  refine ir_w [(0, (2, ((582 : Nat) : Int))), (1, (0, l1)), (2, (0, l2)), (3, (0, l3)), (4, (0, (wgf s 24))), (5, (0, z20)), (6, (0, z22)), (7, (0, ((wga s21 598 l1) - 1)))] ⟨rfl, rfl, rfl, rfl, rfl, rfl, rfl, rfl, trivial⟩ ?_
  obtain ⟨I9, r9, hI9, hB9⟩ := hW
  exact J36 l1 l1r l2 l2r l3 l3r (wgf s 24) r16 I9 r9 hB9 _ z20 z20r z22 z22r ((wga s21 598 l1) - 1) h25 s21 s21v hI9 (Nat.lt_succ_self _)
def W_changesAt_8 (K8 : Int × Int × Int × im_S → Prop) (l1 : Int) (l2 : Int) (l3 : Int) (l4 : Int) (l5 : Int) (s : im_S) (Q : Int → im_S → Prop) : Prop := (((wgf s 29) ≤ l5 → (Q l3 s)) ∧ (¬ ((wgf s 29) ≤ l5) → ((0 ≤ l5 ∧ l5 < 12) ∧ (W_signAt2 (wga s 600 l5) l1 l2 s (fun z6 s5 => (∀ v207 : Int, v207 = (if z6 = 0 then 0 else (if l4 = 0 then 0 else (if z6 = l4 then 0 else 1))) → ((iR (l3 + v207)) ∧ (∀ v410 : Int, v410 = (if z6 = 0 then l4 else z6) → ((iR (l5 + 1)) ∧ (K8 ((l3 + v207), v410, (l5 + 1), s5)))))))))))
def W_changesAt (l1 : Int) (l2 : Int) (s : im_S) (Q : Int → im_S → Prop) : Prop := (wloop (fun (K : Int × Int × Int × im_S → Prop) (a : Int × Int × Int × im_S) => W_changesAt_8 K l1 l2 a.1 a.2.1 a.2.2.1 a.2.2.2 Q) (0, 0, 0, s))
set_option maxRecDepth 16384 in
theorem w_changesAt (L : Nat) (ys : Nat → Int32) (d : Nat) (s : im_S) (hv : vI s) (l1 : Int) (l1r : iR l1) (l2 : Int) (l2r : iR l2) (Q : Int → im_S → Prop) (hW : W_changesAt l1 l2 s Q) : icI gG rm_P L ys 0 (d + 6) 17 [(2, ((582 : Nat) : Int)), (0, l1), (0, l2)] s (fun z9 s9 => vI s9 ∧ iR z9 ∧ Q z9 s9) := by
  refine ic_startM (M := rm_p_X10_changesAt) om_X10_changesAt (Nat.le_of_ble_eq_true rfl) ?_
  refine ir_w [(0, (2, ((582 : Nat) : Int))), (1, (0, l1)), (2, (0, l2))] ⟨rfl, rfl, rfl, trivial⟩ ?_
  have J8 : ∀ (l1 : Int) (l1r : iR l1) (l2 : Int) (l2r : iR l2) (I8 : Int × Int × Int × im_S → Prop) (r8 : Int × Int × Int × im_S → Nat) (hB8 : ∀ a : Int × Int × Int × im_S, I8 a → W_changesAt_8 (fun b => I8 b ∧ r8 b < r8 a) l1 l2 a.1 a.2.1 a.2.2.1 a.2.2.2 Q), ∀ n8 : Nat, ∀ (l3 : Int) (l3r : iR l3) (l4 : Int) (l4r : iR l4) (l5 : Int) (l5r : iR l5) (s : im_S) (hv : vI s), I8 (l3, l4, l5, s) → r8 (l3, l4, l5, s) < n8 → ir gG rm_P L ys (d + 5) rm_p_X10_changesAt (8, [(0, (2, ((582 : Nat) : Int))), (1, (0, l1)), (2, (0, l2)), (3, (0, l3)), (4, (0, l4)), (5, (0, l5))], [], s) (fun r : im_Re => ∃ z, r.1 = some (0, z) ∧ (vI r.2 ∧ iR z ∧ Q z r.2)) := by
    intro l1 l1r l2 l2r I8 r8 hB8 n8
    induction n8 with
    | zero => intro l3 l3r l4 l4r l5 l5r s hv hI hr; exact absurd hr (Nat.not_lt_zero _)
    | succ n8 ih8 =>
      intro l3 l3r l4 l4r l5 l5r s hv hI hr8
      obtain ⟨t8, ht8⟩ : ∃ t8 : Int × Int × Int × im_S, t8 = (l3, l4, l5, s) := ⟨_, rfl⟩
      rw [← ht8] at hr8
      have hW : W_changesAt_8 (fun b => I8 b ∧ r8 b < r8 t8) l1 l2 l3 l4 l5 s Q := by have z := hB8 (l3, l4, l5, s) hI; rw [ht8]; exact z
      unfold W_changesAt_8 at hW
      refine ir_l (pc' := 10) rfl rfl rfl rfl rfl rfl ?_
      refine ir_l (pc' := 11) rfl rfl rfl rfl rfl rfl ?_
      refine ir_vgi (pc' := 14) rfl rfl rfl rfl rfl hv (fun r1 => ?_)
      refine ir_c_ge (pt := 77) (pc' := 17) rfl rfl rfl (fun c2 => ?_) (fun c2 => ?_)
      · have hW := hW.1 c2
        refine ir_l (pc' := 78) rfl rfl rfl rfl rfl rfl ?_
        exact ir_iret rfl rfl ⟨_, rfl, hv, l3r, hW⟩
      · have hW := hW.2 c2
        obtain ⟨h3, hW⟩ := hW
        refine ir_l (pc' := 18) rfl rfl rfl rfl rfl rfl ?_
        refine ir_l (pc' := 19) rfl rfl rfl rfl rfl rfl ?_
        refine ir_vgr (pc' := 22) (c := 600) rfl rfl rfl rfl rfl hv ?_
        refine ir_l (pc' := 24) rfl rfl rfl rfl rfl rfl ?_
        refine ir_via (pc' := 25) rfl rfl vg_600 rfl (Nat.le_of_ble_eq_true rfl) hv rfl h3 (fun r4 => ?_)
        refine ir_l (pc' := 26) rfl rfl rfl rfl rfl rfl ?_
        refine ir_l (pc' := 27) rfl rfl rfl rfl rfl rfl ?_
        refine ir_cVI (pc' := 30) rfl rfl rfl rfl rfl (Nat.le_of_ble_eq_true rfl) oo_X10_signAt2 vg_582 (w_signAt2 L ys d s hv (wga s 600 l5) r4 l1 l1r l2 l2r _ hW) (fun z6 s5 hr => ?_)
        obtain ⟨s5v, z6r, hW⟩ := hr
        refine ir_s (pc' := 32) rfl rfl rfl rfl rfl rfl ?_
        refine ir_l (pc' := 33) rfl rfl rfl rfl rfl rfl ?_
        refine ir_l (pc' := 35) rfl rfl rfl rfl rfl rfl ?_
        have J208 : ∀ v207 : Int, zR v207 → (((iR (l3 + v207)) ∧ (∀ v410 : Int, v410 = (if z6 = 0 then l4 else z6) → ((iR (l5 + 1)) ∧ ((fun b => I8 b ∧ r8 b < r8 t8) ((l3 + v207), v410, (l5 + 1), s5)))))) → ir gG rm_P L ys (d + 5) rm_p_X10_changesAt (55, [(0, (2, ((582 : Nat) : Int))), (1, (0, l1)), (2, (0, l2)), (4, (0, l4)), (5, (0, l5)), (6, (0, z6))], [(0, v207), (0, l3)], s5) (fun r : im_Re => ∃ z, r.1 = some (0, z) ∧ (vI r.2 ∧ iR z ∧ Q z r.2)) := by
          intro v207 v207r hW
          obtain ⟨h209, hW⟩ := hW
          refine ir_add (pc' := 56) rfl rfl h209.1 h209.2 ?_
          refine ir_s (pc' := 57) rfl rfl rfl rfl rfl rfl ?_
          refine ir_l (pc' := 59) rfl rfl rfl rfl rfl rfl ?_
          have J411 : ∀ v410 : Int, iR v410 → (((iR (l5 + 1)) ∧ ((fun b => I8 b ∧ r8 b < r8 t8) ((l3 + v207), v410, (l5 + 1), s5)))) → ir gG rm_P L ys (d + 5) rm_p_X10_changesAt (69, [(0, (2, ((582 : Nat) : Int))), (1, (0, l1)), (2, (0, l2)), (3, (0, (l3 + v207))), (5, (0, l5))], [(0, v410)], s5) (fun r : im_Re => ∃ z, r.1 = some (0, z) ∧ (vI r.2 ∧ iR z ∧ Q z r.2)) := by
            intro v410 v410r hW
            obtain ⟨h412, hW⟩ := hW
            refine ir_s (pc' := 71) rfl rfl rfl rfl rfl rfl ?_
            refine ir_inc (pc' := 74) rfl rfl rfl rfl rfl h412.1 h412.2 ?_
            refine ir_goto (pc' := 8) rfl rfl ?_
            refine ir_w [(0, (2, ((582 : Nat) : Int))), (1, (0, l1)), (2, (0, l2)), (3, (0, (l3 + v207))), (4, (0, v410)), (5, (0, (l5 + 1)))] ⟨rfl, rfl, rfl, rfl, rfl, rfl, trivial⟩ ?_
            exact ih8 (l3 + v207) h209 v410 v410r (l5 + 1) h412 s5 s5v hW.1 (Nat.lt_of_lt_of_le hW.2 (Nat.le_of_lt_succ hr8))
          refine ir_z_eq (pt := 67) (pc' := 62) rfl rfl rfl (fun c210 => ?_) (fun c210 => ?_)
          · refine ir_l (pc' := 69) rfl rfl rfl rfl rfl rfl ?_
            refine ir_w [(0, (2, ((582 : Nat) : Int))), (1, (0, l1)), (2, (0, l2)), (3, (0, (l3 + v207))), (5, (0, l5))] ⟨rfl, rfl, rfl, rfl, rfl, trivial⟩ ?_
            exact J411 l4 l4r (hW _ (by rw [if_pos c210]))
          · refine ir_l (pc' := 64) rfl rfl rfl rfl rfl rfl ?_
            refine ir_goto (pc' := 69) rfl rfl ?_
            refine ir_w [(0, (2, ((582 : Nat) : Int))), (1, (0, l1)), (2, (0, l2)), (3, (0, (l3 + v207))), (5, (0, l5))] ⟨rfl, rfl, rfl, rfl, rfl, trivial⟩ ?_
            exact J411 z6 z6r (hW _ (by rw [if_neg (fun z => c210 z)]))
        refine ir_z_eq (pt := 54) (pc' := 38) rfl rfl rfl (fun c7 => ?_) (fun c7 => ?_)
        · refine ir_k (pc' := 55) (v := (0, 0)) rfl rfl rfl (fun _ => rfl) ?_
          refine ir_w [(0, (2, ((582 : Nat) : Int))), (1, (0, l1)), (2, (0, l2)), (4, (0, l4)), (5, (0, l5)), (6, (0, z6))] ⟨rfl, rfl, rfl, rfl, rfl, rfl, trivial⟩ ?_
          exact J208 0 (Or.inl rfl) (hW _ (by rw [if_pos c7]))
        · refine ir_l (pc' := 40) rfl rfl rfl rfl rfl rfl ?_
          refine ir_z_eq (pt := 54) (pc' := 43) rfl rfl rfl (fun c8 => ?_) (fun c8 => ?_)
          · refine ir_k (pc' := 55) (v := (0, 0)) rfl rfl rfl (fun _ => rfl) ?_
            refine ir_w [(0, (2, ((582 : Nat) : Int))), (1, (0, l1)), (2, (0, l2)), (4, (0, l4)), (5, (0, l5)), (6, (0, z6))] ⟨rfl, rfl, rfl, rfl, rfl, rfl, trivial⟩ ?_
            exact J208 0 (Or.inl rfl) (hW _ (by rw [if_neg (fun z => c7 z), if_pos c8]))
          · refine ir_l (pc' := 45) rfl rfl rfl rfl rfl rfl ?_
            refine ir_l (pc' := 47) rfl rfl rfl rfl rfl rfl ?_
            refine ir_c_eq (pt := 54) (pc' := 50) rfl rfl rfl (fun c9 => ?_) (fun c9 => ?_)
            · refine ir_k (pc' := 55) (v := (0, 0)) rfl rfl rfl (fun _ => rfl) ?_
              refine ir_w [(0, (2, ((582 : Nat) : Int))), (1, (0, l1)), (2, (0, l2)), (4, (0, l4)), (5, (0, l5)), (6, (0, z6))] ⟨rfl, rfl, rfl, rfl, rfl, rfl, trivial⟩ ?_
              exact J208 0 (Or.inl rfl) (hW _ (by rw [if_neg (fun z => c7 z), if_neg (fun z => c8 z), if_pos c9]))
            · refine ir_k (pc' := 51) (v := (0, 1)) rfl rfl rfl (fun _ => rfl) ?_
              refine ir_goto (pc' := 55) rfl rfl ?_
              refine ir_w [(0, (2, ((582 : Nat) : Int))), (1, (0, l1)), (2, (0, l2)), (4, (0, l4)), (5, (0, l5)), (6, (0, z6))] ⟨rfl, rfl, rfl, rfl, rfl, rfl, trivial⟩ ?_
              exact J208 1 (Or.inr rfl) (hW _ (by rw [if_neg (fun z => c7 z), if_neg (fun z => c8 z), if_neg (fun z => c9 z)]))
  unfold W_changesAt at hW
  refine ir_k (pc' := 1) (v := (0, 0)) rfl rfl rfl (fun _ => rfl) ?_
  refine ir_s (pc' := 2) rfl rfl rfl rfl rfl rfl ?_
  refine ir_k (pc' := 3) (v := (0, 0)) rfl rfl rfl (fun _ => rfl) ?_
  refine ir_s (pc' := 5) rfl rfl rfl rfl rfl rfl ?_
  refine ir_k (pc' := 6) (v := (0, 0)) rfl rfl rfl (fun _ => rfl) ?_
  refine ir_s (pc' := 8) rfl rfl rfl rfl rfl rfl ?_
  refine ir_w [(0, (2, ((582 : Nat) : Int))), (1, (0, l1)), (2, (0, l2)), (3, (0, 0)), (4, (0, 0)), (5, (0, 0))] ⟨rfl, rfl, rfl, rfl, rfl, rfl, trivial⟩ ?_
  obtain ⟨I9, r9, hI9, hB9⟩ := hW
  exact J8 l1 l1r l2 l2r I9 r9 hB9 _ 0 (zR_i (Or.inl rfl)) 0 (zR_i (Or.inl rfl)) 0 (zR_i (Or.inl rfl)) s hv hI9 (Nat.lt_succ_self _)
def W_changesAtHalf_42 (l3 : Int) (k0 : Int) (s : im_S) (Q : Int → im_S → Prop) : Prop := (∀ s1, s1 = wpf s 24 l3 → (Q k0 s1))
def W_changesAtHalf (l1 : Int) (l2 : Int) (s : im_S) (Q : Int → im_S → Prop) : Prop := ((l2 < 0 → ((iR (-l2)) ∧ (W_powerOfTwo (-l2) s (fun z6 s5 => (W_by l1 z6 s5 (fun z8 s7 => (W_whole 1 s7 (fun z10 s9 => (W_changesAt z8 z10 s9 (fun z12 s11 => (W_changesAtHalf_42 (wgf s 24) z12 s11 Q))))))))))) ∧ (¬ (l2 < 0) → (W_powerOfTwo l2 s (fun z14 s13 => (W_changesAt l1 z14 s13 (fun z16 s15 => (W_changesAtHalf_42 (wgf s 24) z16 s15 Q)))))))
set_option maxRecDepth 16384 in
theorem w_changesAtHalf (L : Nat) (ys : Nat → Int32) (d : Nat) (s : im_S) (hv : vI s) (l1 : Int) (l1r : iR l1) (l2 : Int) (l2r : iR l2) (Q : Int → im_S → Prop) (hW : W_changesAtHalf l1 l2 s Q) : icI gG rm_P L ys 0 (d + 7) 18 [(2, ((582 : Nat) : Int)), (0, l1), (0, l2)] s (fun z9 s9 => vI s9 ∧ iR z9 ∧ Q z9 s9) := by
  refine ic_startM (M := rm_p_X10_changesAtHalf) om_X10_changesAtHalf (Nat.le_of_ble_eq_true rfl) ?_
  refine ir_w [(0, (2, ((582 : Nat) : Int))), (1, (0, l1)), (2, (0, l2))] ⟨rfl, rfl, rfl, trivial⟩ ?_
  have J42 : ∀ (l3 : Int) (l3r : iR l3) (k0 : Int) (k0r : iR k0) (s : im_S) (hv : vI s), W_changesAtHalf_42 l3 k0 s Q → ir gG rm_P L ys (d + 6) rm_p_X10_changesAtHalf (42, [(0, (2, ((582 : Nat) : Int))), (3, (0, l3))], [(0, k0)], s) (fun r : im_Re => ∃ z, r.1 = some (0, z) ∧ (vI r.2 ∧ iR z ∧ Q z r.2)) := by
    intro l3 l3r k0 k0r s hv hW
    unfold W_changesAtHalf_42 at hW
    refine ir_s (pc' := 44) rfl rfl rfl rfl rfl rfl ?_
    refine ir_l (pc' := 45) rfl rfl rfl rfl rfl rfl ?_
    refine ir_l (pc' := 46) rfl rfl rfl rfl rfl rfl ?_
    refine ir_vpi (pc' := 49) rfl rfl rfl rfl rfl rfl rfl hv l3r (fun s1 s1e s1v => ?_)
    have hW := hW s1 s1e
    refine ir_l (pc' := 51) rfl rfl rfl rfl rfl rfl ?_
    exact ir_iret rfl rfl ⟨_, rfl, s1v, k0r, hW⟩
  unfold W_changesAtHalf at hW
  refine ir_l (pc' := 1) rfl rfl rfl rfl rfl rfl ?_
  refine ir_vgi (pc' := 4) rfl rfl rfl rfl rfl hv (fun r2 => ?_)
  refine ir_s (pc' := 5) rfl rfl rfl rfl rfl rfl ?_
  refine ir_l (pc' := 6) rfl rfl rfl rfl rfl rfl ?_
  refine ir_z_lt (pt := 22) (pc' := 9) rfl rfl rfl (fun c3 => ?_) (fun c3 => ?_)
  · have hW := hW.1 c3
    obtain ⟨h4, hW⟩ := hW
    refine ir_l (pc' := 23) rfl rfl rfl rfl rfl rfl ?_
    refine ir_l (pc' := 24) rfl rfl rfl rfl rfl rfl ?_
    refine ir_l (pc' := 25) rfl rfl rfl rfl rfl rfl ?_
    refine ir_l (pc' := 26) rfl rfl rfl rfl rfl rfl ?_
    refine ir_l (pc' := 27) rfl rfl rfl rfl rfl rfl ?_
    refine ir_ineg (pc' := 28) rfl rfl (w_ng0 h4) l2r.2 ?_
    refine ir_cVI (pc' := 31) rfl rfl rfl rfl rfl (Nat.le_of_ble_eq_true rfl) oo_X10_powerOfTwo vg_582 (w_powerOfTwo L ys (d + 2) s hv (-l2) h4 _ hW) (fun z6 s5 hr => ?_)
    obtain ⟨s5v, z6r, hW⟩ := hr
    refine ir_cVI (pc' := 34) rfl rfl rfl rfl rfl (Nat.le_of_ble_eq_true rfl) oo_X10_by vg_582 (w_by L ys (d + 4) s5 s5v l1 l1r z6 z6r _ hW) (fun z8 s7 hr => ?_)
    obtain ⟨s7v, z8r, hW⟩ := hr
    refine ir_l (pc' := 35) rfl rfl rfl rfl rfl rfl ?_
    refine ir_k (pc' := 36) (v := (1, 1)) rfl rfl rfl (fun _ => rfl) ?_
    refine ir_cVI (pc' := 39) rfl rfl rfl rfl rfl (Nat.le_of_ble_eq_true rfl) oo_X10_whole vg_582 (w_whole L ys (d + 5) s7 s7v 1 (⟨by decide, by decide⟩ : lR 1) _ hW) (fun z10 s9 hr => ?_)
    obtain ⟨s9v, z10r, hW⟩ := hr
    refine ir_cVI (pc' := 42) rfl rfl rfl rfl rfl (Nat.le_of_ble_eq_true rfl) oo_X10_changesAt vg_582 (w_changesAt L ys d s9 s9v z8 z8r z10 z10r _ hW) (fun z12 s11 hr => ?_)
    obtain ⟨s11v, z12r, hW⟩ := hr
    refine ir_w [(0, (2, ((582 : Nat) : Int))), (3, (0, (wgf s 24)))] ⟨rfl, rfl, trivial⟩ ?_
    exact J42 (wgf s 24) r2 z12 z12r s11 s11v hW
  · have hW := hW.2 c3
    refine ir_l (pc' := 10) rfl rfl rfl rfl rfl rfl ?_
    refine ir_l (pc' := 11) rfl rfl rfl rfl rfl rfl ?_
    refine ir_l (pc' := 12) rfl rfl rfl rfl rfl rfl ?_
    refine ir_l (pc' := 13) rfl rfl rfl rfl rfl rfl ?_
    refine ir_cVI (pc' := 16) rfl rfl rfl rfl rfl (Nat.le_of_ble_eq_true rfl) oo_X10_powerOfTwo vg_582 (w_powerOfTwo L ys (d + 2) s hv l2 l2r _ hW) (fun z14 s13 hr => ?_)
    obtain ⟨s13v, z14r, hW⟩ := hr
    refine ir_cVI (pc' := 19) rfl rfl rfl rfl rfl (Nat.le_of_ble_eq_true rfl) oo_X10_changesAt vg_582 (w_changesAt L ys d s13 s13v l1 l1r z14 z14r _ hW) (fun z16 s15 hr => ?_)
    obtain ⟨s15v, z16r, hW⟩ := hr
    refine ir_goto (pc' := 42) rfl rfl ?_
    refine ir_w [(0, (2, ((582 : Nat) : Int))), (3, (0, (wgf s 24)))] ⟨rfl, rfl, trivial⟩ ?_
    exact J42 (wgf s 24) r2 z16 z16r s15 s15v hW
def W_reserve (l1 : Int) (s : im_S) (Q : Int → im_S → Prop) : Prop := ((iR ((wgf s 52) + 1)) ∧ (iR (200 * ((wgf s 52) + 1))) ∧ (iR (700000 - (200 * ((wgf s 52) + 1)))) ∧ (∀ s6, s6 = wpf s 52 ((wgf s 52) + 1) → (W_copyTo l1 (700000 - (200 * ((wgf s 52) + 1))) s6 (fun s7 => (Q (700000 - (200 * ((wgf s 52) + 1))) s7)))))
set_option maxRecDepth 16384 in
theorem w_reserve (L : Nat) (ys : Nat → Int32) (d : Nat) (s : im_S) (hv : vI s) (l1 : Int) (l1r : iR l1) (Q : Int → im_S → Prop) (hW : W_reserve l1 s Q) : icI gG rm_P L ys 0 (d + 3) 86 [(2, ((582 : Nat) : Int)), (0, l1)] s (fun z9 s9 => vI s9 ∧ iR z9 ∧ Q z9 s9) := by
  refine ic_startM (M := rm_p_X10_reserve) om_X10_reserve (Nat.le_of_ble_eq_true rfl) ?_
  refine ir_w [(0, (2, ((582 : Nat) : Int))), (1, (0, l1))] ⟨rfl, rfl, trivial⟩ ?_
  unfold W_reserve at hW
  obtain ⟨h2, h3, h4, hW⟩ := hW
  refine ir_k (pc' := 2) (v := (0, 700000)) rfl rfl rfl (fun _ => rfl) ?_
  refine ir_k (pc' := 5) (v := (0, 200)) rfl rfl rfl (fun _ => rfl) ?_
  refine ir_l (pc' := 6) rfl rfl rfl rfl rfl rfl ?_
  refine ir_vgi (pc' := 9) rfl rfl rfl rfl rfl hv (fun r1 => ?_)
  refine ir_k (pc' := 10) (v := (0, 1)) rfl rfl rfl (fun _ => rfl) ?_
  refine ir_add (pc' := 11) rfl rfl h2.1 h2.2 ?_
  refine ir_mul (pc' := 12) rfl rfl h3.1 h3.2 ?_
  refine ir_sub (pc' := 13) rfl rfl h4.1 h4.2 ?_
  refine ir_s (pc' := 14) rfl rfl rfl rfl rfl rfl ?_
  refine ir_l (pc' := 15) rfl rfl rfl rfl rfl rfl ?_
  refine ir_x (pc' := 16) rfl rfl rfl (fun _ => rfl) ?_
  refine ir_vgi (pc' := 19) rfl rfl rfl rfl rfl hv (fun r5 => ?_)
  refine ir_k (pc' := 20) (v := (0, 1)) rfl rfl rfl (fun _ => rfl) ?_
  refine ir_add (pc' := 21) rfl rfl h2.1 h2.2 ?_
  refine ir_vpi (pc' := 24) rfl rfl rfl rfl rfl rfl rfl hv h2 (fun s6 s6e s6v => ?_)
  have hW := hW s6 s6e
  refine ir_l (pc' := 25) rfl rfl rfl rfl rfl rfl ?_
  refine ir_l (pc' := 26) rfl rfl rfl rfl rfl rfl ?_
  refine ir_l (pc' := 27) rfl rfl rfl rfl rfl rfl ?_
  refine ir_cVV (pc' := 30) rfl rfl rfl rfl rfl (Nat.le_of_ble_eq_true rfl) oo_X10_copyTo vg_582 (w_copyTo L ys d s6 s6v l1 l1r (700000 - (200 * ((wgf s 52) + 1))) h4 _ hW) (fun s7 hr => ?_)
  obtain ⟨s7v, hW⟩ := hr
  refine ir_l (pc' := 31) rfl rfl rfl rfl rfl rfl ?_
  exact ir_iret rfl rfl ⟨_, rfl, s7v, h4, hW⟩
def W_fitsSo_6 (K6 : Int × Int × im_S → Prop) (l1 : Int) (l2 : Int) (l3 : Int) (l4 : Int) (l5 : Int) (l7 : Int) (l9 : Int) (s : im_S) (Q : Int → im_S → Prop) : Prop := ((iR (l4 + 1)) ∧ (((l4 + 1) < l9 → (∀ v204 : Int, v204 = (if ¬ (l7 = 0) then 0 else 1) → (Q v204 s))) ∧ (¬ ((l4 + 1) < l9) → ((iR (l1 + l2)) ∧ (iR ((l1 + l2) + l9)) ∧ (0 ≤ (((l1 + l2) + l9) - 1) ∧ (((l1 + l2) + l9) - 1) < 700000) ∧ (lR ((wga s 597 (((l1 + l2) + l9) - 1)) - l7)) ∧ (¬ (l4 < l9) → (0 ≤ (l3 + l9) ∧ (l3 + l9) < 700000)) ∧ (¬ (l4 < l9) → lR (l5 * (wga s 597 (l3 + l9)))) ∧ (∀ v412 : Int, v412 = (if l4 < l9 then 0 else (l5 * (wga s 597 (l3 + l9)))) → ((lR (((wga s 597 (((l1 + l2) + l9) - 1)) - l7) - v412)) ∧ (¬ (0 ≤ ((((wga s 597 (((l1 + l2) + l9) - 1)) - l7) - v412).tmod 1000000000)) → lR (((((wga s 597 (((l1 + l2) + l9) - 1)) - l7) - v412).tmod 1000000000) + 1000000000)) ∧ (∀ v616 : Int, v616 = (if 0 ≤ ((((wga s 597 (((l1 + l2) + l9) - 1)) - l7) - v412).tmod 1000000000) then ((((wga s 597 (((l1 + l2) + l9) - 1)) - l7) - v412).tmod 1000000000) else (((((wga s 597 (((l1 + l2) + l9) - 1)) - l7) - v412).tmod 1000000000) + 1000000000)) → ((lR (v616 - (((wga s 597 (((l1 + l2) + l9) - 1)) - l7) - v412))) ∧ (iR (l9 + 1)) ∧ (K6 (((v616 - (((wga s 597 (((l1 + l2) + l9) - 1)) - l7) - v412)).tdiv 1000000000), (l9 + 1), s))))))))))
def W_fitsSo (l1 : Int) (l2 : Int) (l3 : Int) (l4 : Int) (l5 : Int) (s : im_S) (Q : Int → im_S → Prop) : Prop := (wloop (fun (K : Int × Int × im_S → Prop) (a : Int × Int × im_S) => W_fitsSo_6 K l1 l2 l3 l4 l5 a.1 a.2.1 a.2.2 Q) (0, 1, s))
set_option maxRecDepth 16384 in
theorem w_fitsSo (L : Nat) (ys : Nat → Int32) (d : Nat) (s : im_S) (hv : vI s) (l1 : Int) (l1r : iR l1) (l2 : Int) (l2r : iR l2) (l3 : Int) (l3r : iR l3) (l4 : Int) (l4r : iR l4) (l5 : Int) (l5r : lR l5) (Q : Int → im_S → Prop) (hW : W_fitsSo l1 l2 l3 l4 l5 s Q) : icI gG rm_P L ys 0 (d + 1) 39 [(2, ((582 : Nat) : Int)), (0, l1), (0, l2), (0, l3), (0, l4), (1, l5)] s (fun z9 s9 => vI s9 ∧ zR z9 ∧ Q z9 s9) := by
  refine ic_startM (M := rm_p_X10_fitsSo) om_X10_fitsSo (Nat.le_of_ble_eq_true rfl) ?_
  refine ir_w [(0, (2, ((582 : Nat) : Int))), (1, (0, l1)), (2, (0, l2)), (3, (0, l3)), (4, (0, l4)), (5, (1, l5))] ⟨rfl, rfl, rfl, rfl, rfl, rfl, trivial⟩ ?_
  have J6 : ∀ (l1 : Int) (l1r : iR l1) (l2 : Int) (l2r : iR l2) (l3 : Int) (l3r : iR l3) (l4 : Int) (l4r : iR l4) (l5 : Int) (l5r : lR l5) (I6 : Int × Int × im_S → Prop) (r6 : Int × Int × im_S → Nat) (hB6 : ∀ a : Int × Int × im_S, I6 a → W_fitsSo_6 (fun b => I6 b ∧ r6 b < r6 a) l1 l2 l3 l4 l5 a.1 a.2.1 a.2.2 Q), ∀ n6 : Nat, ∀ (l7 : Int) (l7r : lR l7) (l9 : Int) (l9r : iR l9) (s : im_S) (hv : vI s), I6 (l7, l9, s) → r6 (l7, l9, s) < n6 → ir gG rm_P L ys d rm_p_X10_fitsSo (6, [(0, (2, ((582 : Nat) : Int))), (1, (0, l1)), (2, (0, l2)), (3, (0, l3)), (4, (0, l4)), (5, (1, l5)), (7, (1, l7)), (9, (0, l9))], [], s) (fun r : im_Re => ∃ z, r.1 = some (0, z) ∧ (vI r.2 ∧ zR z ∧ Q z r.2)) := by
    intro l1 l1r l2 l2r l3 l3r l4 l4r l5 l5r I6 r6 hB6 n6
    induction n6 with
    | zero => intro l7 l7r l9 l9r s hv hI hr; exact absurd hr (Nat.not_lt_zero _)
    | succ n6 ih6 =>
      intro l7 l7r l9 l9r s hv hI hr6
      obtain ⟨t6, ht6⟩ : ∃ t6 : Int × Int × im_S, t6 = (l7, l9, s) := ⟨_, rfl⟩
      rw [← ht6] at hr6
      have hW : W_fitsSo_6 (fun b => I6 b ∧ r6 b < r6 t6) l1 l2 l3 l4 l5 l7 l9 s Q := by have z := hB6 (l7, l9, s) hI; rw [ht6]; exact z
      unfold W_fitsSo_6 at hW
      obtain ⟨h1, hW⟩ := hW
      refine ir_l (pc' := 8) rfl rfl rfl rfl rfl rfl ?_
      refine ir_l (pc' := 10) rfl rfl rfl rfl rfl rfl ?_
      refine ir_k (pc' := 11) (v := (0, 1)) rfl rfl rfl (fun _ => rfl) ?_
      refine ir_add (pc' := 12) rfl rfl h1.1 h1.2 ?_
      refine ir_c_gt (pt := 104) (pc' := 15) rfl rfl rfl (fun c2 => ?_) (fun c2 => ?_)
      · have hW := hW.1 c2
        refine ir_l (pc' := 106) rfl rfl rfl rfl rfl rfl ?_
        refine ir_k (pc' := 107) (v := (1, 0)) rfl rfl rfl (fun _ => rfl) ?_
        refine ir_lcmp (pc' := 108) rfl rfl l7r.1 l7r.2 (⟨by decide, by decide⟩ : lR 0).1 (⟨by decide, by decide⟩ : lR 0).2 (fun z3 z3c => ?_)
        have J205 : ∀ v204 : Int, zR v204 → ((Q v204 s)) → ir gG rm_P L ys d rm_p_X10_fitsSo (116, [], [(0, v204)], s) (fun r : im_Re => ∃ z, r.1 = some (0, z) ∧ (vI r.2 ∧ zR z ∧ Q z r.2)) := by
          intro v204 v204r hW
          exact ir_zret rfl rfl v204r ⟨_, rfl, hv, v204r, hW⟩
        refine ir_z_ne (pt := 115) (pc' := 111) rfl rfl rfl (fun c4 => ?_) (fun c4 => ?_)
        · have c4 : ¬ (l7 = 0) := by omega
          refine ir_k (pc' := 116) (v := (0, 0)) rfl rfl rfl (fun _ => rfl) ?_
          refine ir_w [] trivial ?_
          exact J205 0 (Or.inl rfl) (hW _ (by rw [if_pos c4]))
        · have c4 : l7 = 0 := by omega
          refine ir_k (pc' := 112) (v := (0, 1)) rfl rfl rfl (fun _ => rfl) ?_
          refine ir_goto (pc' := 116) rfl rfl ?_
          refine ir_w [] trivial ?_
          exact J205 1 (Or.inr rfl) (hW _ (by rw [if_neg (by omega)]))
      · have hW := hW.2 c2
        obtain ⟨h206, h207, h209, h211, h214, h216, hW⟩ := hW
        have h208 : iR (((l1 + l2) + l9) - 1) := ⟨by omega, by omega⟩
        have h213 : ¬ (l4 < l9) → iR (l3 + l9) := fun g0_ => ⟨by have z := h214 g0_; omega, by have z := h214 g0_; omega⟩
        refine ir_l (pc' := 16) rfl rfl rfl rfl rfl rfl ?_
        refine ir_vgr (pc' := 19) (c := 597) rfl rfl rfl rfl rfl hv ?_
        refine ir_l (pc' := 20) rfl rfl rfl rfl rfl rfl ?_
        refine ir_l (pc' := 21) rfl rfl rfl rfl rfl rfl ?_
        refine ir_add (pc' := 22) rfl rfl h206.1 h206.2 ?_
        refine ir_l (pc' := 24) rfl rfl rfl rfl rfl rfl ?_
        refine ir_add (pc' := 25) rfl rfl h207.1 h207.2 ?_
        refine ir_k (pc' := 26) (v := (0, 1)) rfl rfl rfl (fun _ => rfl) ?_
        refine ir_sub (pc' := 27) rfl rfl h208.1 h208.2 ?_
        refine ir_via (pc' := 28) rfl rfl vg_597 rfl (Nat.le_of_ble_eq_true rfl) hv rfl h209 (fun r210 => ?_)
        refine ir_i2l (pc' := 29) rfl rfl r210.1 r210.2 ?_
        refine ir_l (pc' := 31) rfl rfl rfl rfl rfl rfl ?_
        refine ir_lsub (pc' := 32) rfl rfl h211.1 h211.2 ?_
        refine ir_l (pc' := 34) rfl rfl rfl rfl rfl rfl ?_
        refine ir_l (pc' := 36) rfl rfl rfl rfl rfl rfl ?_
        have J413 : ∀ v412 : Int, lR v412 → (((lR (((wga s 597 (((l1 + l2) + l9) - 1)) - l7) - v412)) ∧ (¬ (0 ≤ ((((wga s 597 (((l1 + l2) + l9) - 1)) - l7) - v412).tmod 1000000000)) → lR (((((wga s 597 (((l1 + l2) + l9) - 1)) - l7) - v412).tmod 1000000000) + 1000000000)) ∧ (∀ v616 : Int, v616 = (if 0 ≤ ((((wga s 597 (((l1 + l2) + l9) - 1)) - l7) - v412).tmod 1000000000) then ((((wga s 597 (((l1 + l2) + l9) - 1)) - l7) - v412).tmod 1000000000) else (((((wga s 597 (((l1 + l2) + l9) - 1)) - l7) - v412).tmod 1000000000) + 1000000000)) → ((lR (v616 - (((wga s 597 (((l1 + l2) + l9) - 1)) - l7) - v412))) ∧ (iR (l9 + 1)) ∧ ((fun b => I6 b ∧ r6 b < r6 t6) (((v616 - (((wga s 597 (((l1 + l2) + l9) - 1)) - l7) - v412)).tdiv 1000000000), (l9 + 1), s)))))) → ir gG rm_P L ys d rm_p_X10_fitsSo (56, [(0, (2, ((582 : Nat) : Int))), (1, (0, l1)), (2, (0, l2)), (3, (0, l3)), (4, (0, l4)), (5, (1, l5)), (9, (0, l9))], [(1, v412), (1, ((wga s 597 (((l1 + l2) + l9) - 1)) - l7))], s) (fun r : im_Re => ∃ z, r.1 = some (0, z) ∧ (vI r.2 ∧ zR z ∧ Q z r.2)) := by
          intro v412 v412r hW
          obtain ⟨h414, h417, hW⟩ := hW
          refine ir_lsub (pc' := 57) rfl rfl h414.1 h414.2 ?_
          refine ir_s2 (pc' := 59) rfl rfl rfl rfl rfl rfl ?_
          refine ir_l (pc' := 61) rfl rfl rfl rfl rfl rfl ?_
          refine ir_k (pc' := 64) (v := (1, 1000000000)) rfl rfl rfl (fun _ => rfl) ?_
          refine ir_lrem (pc' := 65) rfl rfl h414.1 h414.2 (by decide) (⟨by decide, by decide⟩ : lR 1000000000).2 ?_
          refine ir_s2 (pc' := 67) rfl rfl rfl rfl rfl rfl ?_
          refine ir_l (pc' := 69) rfl rfl rfl rfl rfl rfl ?_
          refine ir_k (pc' := 70) (v := (1, 0)) rfl rfl rfl (fun _ => rfl) ?_
          refine ir_lcmp (pc' := 71) rfl rfl (w_tmod1 h414 (by decide) (⟨by decide, by decide⟩ : lR 1000000000)).1 (w_tmod1 h414 (by decide) (⟨by decide, by decide⟩ : lR 1000000000)).2 (⟨by decide, by decide⟩ : lR 0).1 (⟨by decide, by decide⟩ : lR 0).2 (fun z415 z415c => ?_)
          have J617 : ∀ v616 : Int, lR v616 → (((lR (v616 - (((wga s 597 (((l1 + l2) + l9) - 1)) - l7) - v412))) ∧ (iR (l9 + 1)) ∧ ((fun b => I6 b ∧ r6 b < r6 t6) (((v616 - (((wga s 597 (((l1 + l2) + l9) - 1)) - l7) - v412)).tdiv 1000000000), (l9 + 1), s)))) → ir gG rm_P L ys d rm_p_X10_fitsSo (85, [(0, (2, ((582 : Nat) : Int))), (1, (0, l1)), (2, (0, l2)), (3, (0, l3)), (4, (0, l4)), (5, (1, l5)), (9, (0, l9)), (10, (1, (((wga s 597 (((l1 + l2) + l9) - 1)) - l7) - v412)))], [(1, v616)], s) (fun r : im_Re => ∃ z, r.1 = some (0, z) ∧ (vI r.2 ∧ zR z ∧ Q z r.2)) := by
            intro v616 v616r hW
            obtain ⟨h618, h619, hW⟩ := hW
            refine ir_s2 (pc' := 87) rfl rfl rfl rfl rfl rfl ?_
            refine ir_l (pc' := 89) rfl rfl rfl rfl rfl rfl ?_
            refine ir_l (pc' := 91) rfl rfl rfl rfl rfl rfl ?_
            refine ir_lsub (pc' := 92) rfl rfl h618.1 h618.2 ?_
            refine ir_k (pc' := 95) (v := (1, 1000000000)) rfl rfl rfl (fun _ => rfl) ?_
            refine ir_ldiv (pc' := 96) rfl rfl h618.1 h618.2 (by decide) (⟨by decide, by decide⟩ : lR 1000000000).2 ?_
            refine ir_s2 (pc' := 98) rfl rfl rfl rfl rfl rfl ?_
            refine ir_inc (pc' := 101) rfl rfl rfl rfl rfl h619.1 h619.2 ?_
            refine ir_goto (pc' := 6) rfl rfl ?_
            refine ir_w [(0, (2, ((582 : Nat) : Int))), (1, (0, l1)), (2, (0, l2)), (3, (0, l3)), (4, (0, l4)), (5, (1, l5)), (7, (1, ((v616 - (((wga s 597 (((l1 + l2) + l9) - 1)) - l7) - v412)).tdiv 1000000000))), (9, (0, (l9 + 1)))] ⟨rfl, rfl, rfl, rfl, rfl, rfl, rfl, rfl, trivial⟩ ?_
            exact ih6 ((v616 - (((wga s 597 (((l1 + l2) + l9) - 1)) - l7) - v412)).tdiv 1000000000) (w_tdiv1 h618 (by decide) (⟨by decide, by decide⟩ : lR 1000000000)) (l9 + 1) h619 s hv hW.1 (Nat.lt_of_lt_of_le hW.2 (Nat.le_of_lt_succ hr6))
          refine ir_z_ge (pt := 83) (pc' := 74) rfl rfl rfl (fun c416 => ?_) (fun c416 => ?_)
          · have c416 : 0 ≤ ((((wga s 597 (((l1 + l2) + l9) - 1)) - l7) - v412).tmod 1000000000) := by omega
            refine ir_l (pc' := 85) rfl rfl rfl rfl rfl rfl ?_
            refine ir_w [(0, (2, ((582 : Nat) : Int))), (1, (0, l1)), (2, (0, l2)), (3, (0, l3)), (4, (0, l4)), (5, (1, l5)), (9, (0, l9)), (10, (1, (((wga s 597 (((l1 + l2) + l9) - 1)) - l7) - v412)))] ⟨rfl, rfl, rfl, rfl, rfl, rfl, rfl, rfl, trivial⟩ ?_
            exact J617 ((((wga s 597 (((l1 + l2) + l9) - 1)) - l7) - v412).tmod 1000000000) (w_tmod1 h414 (by decide) (⟨by decide, by decide⟩ : lR 1000000000)) (hW _ (by rw [if_pos c416]))
          · have c416 : ¬ (0 ≤ ((((wga s 597 (((l1 + l2) + l9) - 1)) - l7) - v412).tmod 1000000000)) := by omega
            refine ir_l (pc' := 76) rfl rfl rfl rfl rfl rfl ?_
            refine ir_k (pc' := 79) (v := (1, 1000000000)) rfl rfl rfl (fun _ => rfl) ?_
            refine ir_ladd (pc' := 80) rfl rfl (h417 c416).1 (h417 c416).2 ?_
            refine ir_goto (pc' := 85) rfl rfl ?_
            refine ir_w [(0, (2, ((582 : Nat) : Int))), (1, (0, l1)), (2, (0, l2)), (3, (0, l3)), (4, (0, l4)), (5, (1, l5)), (9, (0, l9)), (10, (1, (((wga s 597 (((l1 + l2) + l9) - 1)) - l7) - v412)))] ⟨rfl, rfl, rfl, rfl, rfl, rfl, rfl, rfl, trivial⟩ ?_
            exact J617 (((((wga s 597 (((l1 + l2) + l9) - 1)) - l7) - v412).tmod 1000000000) + 1000000000) (h417 c416) (hW _ (by rw [if_neg (fun z => c416 z)]))
        refine ir_c_gt (pt := 55) (pc' := 39) rfl rfl rfl (fun c212 => ?_) (fun c212 => ?_)
        · refine ir_k (pc' := 56) (v := (1, 0)) rfl rfl rfl (fun _ => rfl) ?_
          refine ir_w [(0, (2, ((582 : Nat) : Int))), (1, (0, l1)), (2, (0, l2)), (3, (0, l3)), (4, (0, l4)), (5, (1, l5)), (9, (0, l9))] ⟨rfl, rfl, rfl, rfl, rfl, rfl, rfl, trivial⟩ ?_
          exact J413 0 (⟨by decide, by decide⟩ : lR 0) (hW _ (by rw [if_pos c212]))
        · refine ir_l (pc' := 41) rfl rfl rfl rfl rfl rfl ?_
          refine ir_l (pc' := 42) rfl rfl rfl rfl rfl rfl ?_
          refine ir_vgr (pc' := 45) (c := 597) rfl rfl rfl rfl rfl hv ?_
          refine ir_l (pc' := 46) rfl rfl rfl rfl rfl rfl ?_
          refine ir_l (pc' := 48) rfl rfl rfl rfl rfl rfl ?_
          refine ir_add (pc' := 49) rfl rfl (h213 c212).1 (h213 c212).2 ?_
          refine ir_via (pc' := 50) rfl rfl vg_597 rfl (Nat.le_of_ble_eq_true rfl) hv rfl (h214 c212) (fun r215 => ?_)
          refine ir_i2l (pc' := 51) rfl rfl r215.1 r215.2 ?_
          refine ir_lmul (pc' := 52) rfl rfl (h216 c212).1 (h216 c212).2 ?_
          refine ir_goto (pc' := 56) rfl rfl ?_
          refine ir_w [(0, (2, ((582 : Nat) : Int))), (1, (0, l1)), (2, (0, l2)), (3, (0, l3)), (4, (0, l4)), (5, (1, l5)), (9, (0, l9))] ⟨rfl, rfl, rfl, rfl, rfl, rfl, rfl, trivial⟩ ?_
          exact J413 (l5 * (wga s 597 (l3 + l9))) (h216 c212) (hW _ (by rw [if_neg (fun z => c212 z)]))
  unfold W_fitsSo at hW
  refine ir_k (pc' := 1) (v := (1, 0)) rfl rfl rfl (fun _ => rfl) ?_
  refine ir_s2 (pc' := 3) rfl rfl rfl rfl rfl rfl ?_
  refine ir_k (pc' := 4) (v := (0, 1)) rfl rfl rfl (fun _ => rfl) ?_
  refine ir_s (pc' := 6) rfl rfl rfl rfl rfl rfl ?_
  refine ir_w [(0, (2, ((582 : Nat) : Int))), (1, (0, l1)), (2, (0, l2)), (3, (0, l3)), (4, (0, l4)), (5, (1, l5)), (7, (1, 0)), (9, (0, 1))] ⟨rfl, rfl, rfl, rfl, rfl, rfl, rfl, rfl, trivial⟩ ?_
  obtain ⟨I9, r9, hI9, hB9⟩ := hW
  exact J6 l1 l1r l2 l2r l3 l3r l4 l4r l5 l5r I9 r9 hB9 _ 0 (⟨by decide, by decide⟩ : lR 0) 1 (zR_i (Or.inr rfl)) s hv hI9 (Nat.lt_succ_self _)
