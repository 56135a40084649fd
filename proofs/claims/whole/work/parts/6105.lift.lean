/-! THE REFERENCE LIFTED, by program -/
def W_cannot_23 (k1 : Int) (s : im_S) (Q : im_S → Prop) : Prop := (W_fail k1 (wgf s 4) s (fun s2 => (Q s2)))
def W_cannot (s : im_S) (Q : im_S → Prop) : Prop := (W_peek s (fun z5 s4 => ((z5 = (-1) → (W_cannot_23 2 s4 Q)) ∧ (¬ (z5 = (-1)) → (W_isToken z5 s4 (fun z8 s7 => (∀ v209 : Int, v209 = (if z8 = 0 then 1 else 2) → (W_cannot_23 v209 s7 Q))))))))
set_option maxRecDepth 16384 in
theorem w_cannot (L : Nat) (ys : Nat → Int32) (d : Nat) (s : im_S) (hv : vI s) (Q : im_S → Prop) (hW : W_cannot s Q) : icV gG rm_P L ys (d + 3) 14 [(2, ((582 : Nat) : Int))] s (fun s9 => vI s9 ∧ Q s9) := by
  refine ic_startM (M := rm_p_X10_cannot) om_X10_cannot (Nat.le_of_ble_eq_true rfl) ?_
  refine ir_w [(0, (2, ((582 : Nat) : Int)))] ⟨rfl, trivial⟩ ?_
  have J23 : ∀ (k1 : Int) (k1r : iR k1) (s : im_S) (hv : vI s), W_cannot_23 k1 s Q → ir gG rm_P L ys (d + 2) rm_p_X10_cannot (23, [(0, (2, ((582 : Nat) : Int)))], [(0, k1), (2, ((582 : Nat) : Int))], s) (fun r : im_Re => r.1 = none ∧ (vI r.2 ∧ Q r.2)) := by
    intro k1 k1r s hv hW
    unfold W_cannot_23 at hW
    refine ir_l (pc' := 24) rfl rfl rfl rfl rfl rfl ?_
    refine ir_vgi (pc' := 27) rfl rfl rfl rfl rfl hv (fun r1 => ?_)
    refine ir_cVV (pc' := 30) rfl rfl rfl rfl rfl (Nat.le_of_ble_eq_true rfl) oo_X10_fail vg_582 (w_fail L ys (d + 1) s hv k1 k1r (wgf s 4) r1 _ hW) (fun s2 hr => ?_)
    obtain ⟨s2v, hW⟩ := hr
    exact ir_vret rfl rfl ⟨rfl, s2v, hW⟩
  unfold W_cannot at hW
  refine ir_l (pc' := 1) rfl rfl rfl rfl rfl rfl ?_
  refine ir_cVI (pc' := 4) rfl rfl rfl rfl rfl (Nat.le_of_ble_eq_true rfl) oo_X10_peek vg_582 (w_peek L ys (d + 1) s hv  _ hW) (fun z5 s4 hr => ?_)
  obtain ⟨s4v, z5r, hW⟩ := hr
  refine ir_s (pc' := 5) rfl rfl rfl rfl rfl rfl ?_
  refine ir_l (pc' := 6) rfl rfl rfl rfl rfl rfl ?_
  refine ir_l (pc' := 7) rfl rfl rfl rfl rfl rfl ?_
  refine ir_k (pc' := 8) (v := (0, (-1))) rfl rfl rfl (fun _ => rfl) ?_
  refine ir_c_eq (pt := 18) (pc' := 11) rfl rfl rfl (fun c6 => ?_) (fun c6 => ?_)
  · have hW := hW.1 c6
    refine ir_k (pc' := 19) (v := (0, 2)) rfl rfl rfl (fun _ => rfl) ?_
    refine ir_goto (pc' := 23) rfl rfl ?_
    refine ir_w [(0, (2, ((582 : Nat) : Int)))] ⟨rfl, trivial⟩ ?_
    exact J23 2 (⟨by decide, by decide⟩ : iR 2) s4 s4v hW
  · have hW := hW.2 c6
    refine ir_l (pc' := 12) rfl rfl rfl rfl rfl rfl ?_
    refine ir_cSI (pc' := 15) rfl rfl rfl rfl rfl rfl (Nat.le_of_ble_eq_true rfl) (w_isToken L ys d s4 s4v z5 z5r _ hW) (fun z8 s7 hr => ?_)
    obtain ⟨s7v, z8r, hW⟩ := hr
    have J210 : ∀ v209 : Int, iR v209 → ((W_cannot_23 v209 s7 Q)) → ir gG rm_P L ys (d + 2) rm_p_X10_cannot (23, [(0, (2, ((582 : Nat) : Int)))], [(0, v209), (2, ((582 : Nat) : Int))], s7) (fun r : im_Re => r.1 = none ∧ (vI r.2 ∧ Q r.2)) := by
      intro v209 v209r hW
      refine ir_w [(0, (2, ((582 : Nat) : Int)))] ⟨rfl, trivial⟩ ?_
      exact J23 v209 v209r s7 s7v hW
    refine ir_z_eq (pt := 22) (pc' := 18) rfl rfl rfl (fun c9 => ?_) (fun c9 => ?_)
    · refine ir_k (pc' := 23) (v := (0, 1)) rfl rfl rfl (fun _ => rfl) ?_
      refine ir_w [(0, (2, ((582 : Nat) : Int)))] ⟨rfl, trivial⟩ ?_
      exact J210 1 (zR_i (Or.inr rfl)) (hW _ (by rw [if_pos c9]))
    · refine ir_k (pc' := 19) (v := (0, 2)) rfl rfl rfl (fun _ => rfl) ?_
      refine ir_goto (pc' := 23) rfl rfl ?_
      refine ir_w [(0, (2, ((582 : Nat) : Int)))] ⟨rfl, trivial⟩ ?_
      exact J210 2 (⟨by decide, by decide⟩ : iR 2) (hW _ (by rw [if_neg (fun z => c9 z)]))
def W_isNumber (l0 : Int) (l1 : Int) (s : im_S) (Q : Int → im_S → Prop) : Prop := (∀ v201 : Int, v201 = (if l1 < 1 then 0 else (if 1000000000 < l1 then 0 else (if l0 < (-1000000000) then 0 else (if 1000000000 < l0 then 0 else 1)))) → (Q v201 s))
set_option maxRecDepth 16384 in
theorem w_isNumber (L : Nat) (ys : Nat → Int32) (d : Nat) (s : im_S) (hv : vI s) (l0 : Int) (l0r : iR l0) (l1 : Int) (l1r : iR l1) (Q : Int → im_S → Prop) (hW : W_isNumber l0 l1 s Q) : icI gG rm_P L ys 0 (d + 1) 54 [(0, l0), (0, l1)] s (fun z9 s9 => vI s9 ∧ zR z9 ∧ Q z9 s9) := by
  refine ic_startM (M := rm_p_X10_isNumber) om_X10_isNumber (Nat.le_of_ble_eq_true rfl) ?_
  refine ir_w [(0, (0, l0)), (1, (0, l1))] ⟨rfl, rfl, trivial⟩ ?_
  unfold W_isNumber at hW
  refine ir_l (pc' := 1) rfl rfl rfl rfl rfl rfl ?_
  refine ir_k (pc' := 2) (v := (0, 1)) rfl rfl rfl (fun _ => rfl) ?_
  have J202 : ∀ v201 : Int, zR v201 → ((Q v201 s)) → ir gG rm_P L ys d rm_p_X10_isNumber (31, [], [(0, v201)], s) (fun r : im_Re => ∃ z, r.1 = some (0, z) ∧ (vI r.2 ∧ zR z ∧ Q z r.2)) := by
    intro v201 v201r hW
    exact ir_zret rfl rfl v201r ⟨_, rfl, hv, v201r, hW⟩
  refine ir_c_lt (pt := 30) (pc' := 5) rfl rfl rfl (fun c1 => ?_) (fun c1 => ?_)
  · refine ir_k (pc' := 31) (v := (0, 0)) rfl rfl rfl (fun _ => rfl) ?_
    refine ir_w [] trivial ?_
    exact J202 0 (Or.inl rfl) (hW _ (by rw [if_pos c1]))
  · refine ir_l (pc' := 6) rfl rfl rfl rfl rfl rfl ?_
    refine ir_k (pc' := 9) (v := (0, 1000000000)) rfl rfl rfl (fun _ => rfl) ?_
    refine ir_c_gt (pt := 30) (pc' := 12) rfl rfl rfl (fun c2 => ?_) (fun c2 => ?_)
    · refine ir_k (pc' := 31) (v := (0, 0)) rfl rfl rfl (fun _ => rfl) ?_
      refine ir_w [] trivial ?_
      exact J202 0 (Or.inl rfl) (hW _ (by rw [if_neg (fun z => c1 z), if_pos c2]))
    · refine ir_l (pc' := 13) rfl rfl rfl rfl rfl rfl ?_
      refine ir_k (pc' := 16) (v := (0, (-1000000000))) rfl rfl rfl (fun _ => rfl) ?_
      refine ir_c_lt (pt := 30) (pc' := 19) rfl rfl rfl (fun c3 => ?_) (fun c3 => ?_)
      · refine ir_k (pc' := 31) (v := (0, 0)) rfl rfl rfl (fun _ => rfl) ?_
        refine ir_w [] trivial ?_
        exact J202 0 (Or.inl rfl) (hW _ (by rw [if_neg (fun z => c1 z), if_neg (fun z => c2 z), if_pos c3]))
      · refine ir_l (pc' := 20) rfl rfl rfl rfl rfl rfl ?_
        refine ir_k (pc' := 23) (v := (0, 1000000000)) rfl rfl rfl (fun _ => rfl) ?_
        refine ir_c_gt (pt := 30) (pc' := 26) rfl rfl rfl (fun c4 => ?_) (fun c4 => ?_)
        · refine ir_k (pc' := 31) (v := (0, 0)) rfl rfl rfl (fun _ => rfl) ?_
          refine ir_w [] trivial ?_
          exact J202 0 (Or.inl rfl) (hW _ (by rw [if_neg (fun z => c1 z), if_neg (fun z => c2 z), if_neg (fun z => c3 z), if_pos c4]))
        · refine ir_k (pc' := 27) (v := (0, 1)) rfl rfl rfl (fun _ => rfl) ?_
          refine ir_goto (pc' := 31) rfl rfl ?_
          refine ir_w [] trivial ?_
          exact J202 1 (Or.inr rfl) (hW _ (by rw [if_neg (fun z => c1 z), if_neg (fun z => c2 z), if_neg (fun z => c3 z), if_neg (fun z => c4 z)]))
def W_cellOf_67 (l3 : Int) (l4 : Int) (s : im_S) (Q : Int → im_S → Prop) : Prop := ((¬ (l3 = (wgf s 41)) → ¬ (l4 = 0) → iR (2 * l3)) ∧ (¬ (l3 = (wgf s 41)) → l4 = 0 → iR (2 * l3)) ∧ (¬ (l3 = (wgf s 41)) → l4 = 0 → iR ((2 * l3) + 1)) ∧ (l3 = (wgf s 41) → iR (2 * (wgf s 41))) ∧ (∀ v202 : Int, v202 = (if ¬ (l3 = (wgf s 41)) then (if ¬ (l4 = 0) then (2 * l3) else ((2 * l3) + 1)) else (2 * (wgf s 41))) → (Q v202 s)))
def W_cellOf_22 (K22 : Int × Int × im_S → Prop) (l1 : Int) (l2 : Int) (l3 : Int) (l4 : Int) (s : im_S) (Q : Int → im_S → Prop) : Prop := (((wgf s 41) ≤ l3 → (W_cellOf_67 l3 l4 s Q)) ∧ (¬ ((wgf s 41) ≤ l3) → ((0 ≤ l4 → (W_cellOf_67 l3 l4 s Q)) ∧ (¬ (0 ≤ l4) → ((0 ≤ l3 ∧ l3 < 90) ∧ (W_against (wga s 614 l3) l1 l2 s (fun z210 s209 => (∀ v411 : Int, v411 = (if 0 ≤ z210 then 0 else 1) → ((iR (l3 + v411)) ∧ (K22 ((l3 + v411), z210, s209)))))))))))
def W_cellOf_15 (s : im_S) (Q : Int → im_S → Prop) : Prop := (Q (-1) s)
def W_cellOf (l1 : Int) (l2 : Int) (s : im_S) (Q : Int → im_S → Prop) : Prop := (W_isNumber l1 l2 s (fun z415 s414 => ((z415 = 0 → (W_cellOf_15 s414 Q)) ∧ (¬ (z415 = 0) → ((¬ ((wgf s414 5) = 0) → (wloop (fun (K : Int × Int × im_S → Prop) (a : Int × Int × im_S) => W_cellOf_22 K l1 l2 a.1 a.2.1 a.2.2 Q) (0, (-1), s414))) ∧ ((wgf s414 5) = 0 → (W_cellOf_15 s414 Q)))))))
set_option maxRecDepth 16384 in
theorem w_cellOf (L : Nat) (ys : Nat → Int32) (d : Nat) (s : im_S) (hv : vI s) (l1 : Int) (l1r : iR l1) (l2 : Int) (l2r : iR l2) (Q : Int → im_S → Prop) (hW : W_cellOf l1 l2 s Q) : icI gG rm_P L ys 0 (d + 8) 15 [(2, ((582 : Nat) : Int)), (0, l1), (0, l2)] s (fun z9 s9 => vI s9 ∧ iR z9 ∧ Q z9 s9) := by
  refine ic_startM (M := rm_p_X10_cellOf) om_X10_cellOf (Nat.le_of_ble_eq_true rfl) ?_
  refine ir_w [(0, (2, ((582 : Nat) : Int))), (1, (0, l1)), (2, (0, l2))] ⟨rfl, rfl, rfl, trivial⟩ ?_
  have J67 : ∀ (l3 : Int) (l3r : iR l3) (l4 : Int) (l4r : iR l4) (s : im_S) (hv : vI s), W_cellOf_67 l3 l4 s Q → ir gG rm_P L ys (d + 7) rm_p_X10_cellOf (67, [(0, (2, ((582 : Nat) : Int))), (3, (0, l3)), (4, (0, l4))], [], s) (fun r : im_Re => ∃ z, r.1 = some (0, z) ∧ (vI r.2 ∧ iR z ∧ Q z r.2)) := by
    intro l3 l3r l4 l4r s hv hW
    unfold W_cellOf_67 at hW
    obtain ⟨h4, h5, h6, h8, hW⟩ := hW
    refine ir_l (pc' := 68) rfl rfl rfl rfl rfl rfl ?_
    refine ir_l (pc' := 69) rfl rfl rfl rfl rfl rfl ?_
    refine ir_vgi (pc' := 72) rfl rfl rfl rfl rfl hv (fun r1 => ?_)
    have J203 : ∀ v202 : Int, iR v202 → ((Q v202 s)) → ir gG rm_P L ys (d + 7) rm_p_X10_cellOf (100, [], [(0, v202)], s) (fun r : im_Re => ∃ z, r.1 = some (0, z) ∧ (vI r.2 ∧ iR z ∧ Q z r.2)) := by
      intro v202 v202r hW
      exact ir_iret rfl rfl ⟨_, rfl, hv, v202r, hW⟩
    refine ir_c_ne (pt := 84) (pc' := 75) rfl rfl rfl (fun c2 => ?_) (fun c2 => ?_)
    · refine ir_l (pc' := 86) rfl rfl rfl rfl rfl rfl ?_
      refine ir_z_ne (pt := 97) (pc' := 89) rfl rfl rfl (fun c3 => ?_) (fun c3 => ?_)
      · refine ir_k (pc' := 98) (v := (0, 2)) rfl rfl rfl (fun _ => rfl) ?_
        refine ir_l (pc' := 99) rfl rfl rfl rfl rfl rfl ?_
        refine ir_mul (pc' := 100) rfl rfl (h4 c2 c3).1 (h4 c2 c3).2 ?_
        refine ir_w [] trivial ?_
        exact J203 (2 * l3) (h4 c2 c3) (hW _ (by rw [if_pos c2, if_pos c3]))
      · refine ir_k (pc' := 90) (v := (0, 2)) rfl rfl rfl (fun _ => rfl) ?_
        refine ir_l (pc' := 91) rfl rfl rfl rfl rfl rfl ?_
        refine ir_mul (pc' := 92) rfl rfl (h5 c2 c3).1 (h5 c2 c3).2 ?_
        refine ir_k (pc' := 93) (v := (0, 1)) rfl rfl rfl (fun _ => rfl) ?_
        refine ir_add (pc' := 94) rfl rfl (h6 c2 c3).1 (h6 c2 c3).2 ?_
        refine ir_goto (pc' := 100) rfl rfl ?_
        refine ir_w [] trivial ?_
        exact J203 ((2 * l3) + 1) (h6 c2 c3) (hW _ (by rw [if_pos c2, if_neg (by omega)]))
    · refine ir_k (pc' := 76) (v := (0, 2)) rfl rfl rfl (fun _ => rfl) ?_
      refine ir_l (pc' := 77) rfl rfl rfl rfl rfl rfl ?_
      refine ir_vgi (pc' := 80) rfl rfl rfl rfl rfl hv (fun r7 => ?_)
      refine ir_mul (pc' := 81) rfl rfl (h8 c2).1 (h8 c2).2 ?_
      refine ir_goto (pc' := 100) rfl rfl ?_
      refine ir_w [] trivial ?_
      exact J203 (2 * (wgf s 41)) (h8 c2) (hW _ (by rw [if_neg (by omega)]))
  have J22 : ∀ (l1 : Int) (l1r : iR l1) (l2 : Int) (l2r : iR l2) (I22 : Int × Int × im_S → Prop) (r22 : Int × Int × im_S → Nat) (hB22 : ∀ a : Int × Int × im_S, I22 a → W_cellOf_22 (fun b => I22 b ∧ r22 b < r22 a) l1 l2 a.1 a.2.1 a.2.2 Q), ∀ n22 : Nat, ∀ (l3 : Int) (l3r : iR l3) (l4 : Int) (l4r : iR l4) (s : im_S) (hv : vI s), I22 (l3, l4, s) → r22 (l3, l4, s) < n22 → ir gG rm_P L ys (d + 7) rm_p_X10_cellOf (22, [(0, (2, ((582 : Nat) : Int))), (1, (0, l1)), (2, (0, l2)), (3, (0, l3)), (4, (0, l4))], [], s) (fun r : im_Re => ∃ z, r.1 = some (0, z) ∧ (vI r.2 ∧ iR z ∧ Q z r.2)) := by
    intro l1 l1r l2 l2r I22 r22 hB22 n22
    induction n22 with
    | zero => intro l3 l3r l4 l4r s hv hI hr; exact absurd hr (Nat.not_lt_zero _)
    | succ n22 ih22 =>
      intro l3 l3r l4 l4r s hv hI hr22
      obtain ⟨t22, ht22⟩ : ∃ t22 : Int × Int × im_S, t22 = (l3, l4, s) := ⟨_, rfl⟩
      rw [← ht22] at hr22
      have hW : W_cellOf_22 (fun b => I22 b ∧ r22 b < r22 t22) l1 l2 l3 l4 s Q := by have z := hB22 (l3, l4, s) hI; rw [ht22]; exact z
      unfold W_cellOf_22 at hW
      refine ir_l (pc' := 23) rfl rfl rfl rfl rfl rfl ?_
      refine ir_l (pc' := 24) rfl rfl rfl rfl rfl rfl ?_
      refine ir_vgi (pc' := 27) rfl rfl rfl rfl rfl hv (fun r204 => ?_)
      refine ir_c_ge (pt := 67) (pc' := 30) rfl rfl rfl (fun c205 => ?_) (fun c205 => ?_)
      · have hW := hW.1 c205
        refine ir_w [(0, (2, ((582 : Nat) : Int))), (3, (0, l3)), (4, (0, l4))] ⟨rfl, rfl, rfl, trivial⟩ ?_
        exact J67 l3 l3r l4 l4r s hv hW
      · have hW := hW.2 c205
        refine ir_l (pc' := 32) rfl rfl rfl rfl rfl rfl ?_
        refine ir_z_ge (pt := 67) (pc' := 35) rfl rfl rfl (fun c206 => ?_) (fun c206 => ?_)
        · have hW := hW.1 c206
          refine ir_w [(0, (2, ((582 : Nat) : Int))), (3, (0, l3)), (4, (0, l4))] ⟨rfl, rfl, rfl, trivial⟩ ?_
          exact J67 l3 l3r l4 l4r s hv hW
        · have hW := hW.2 c206
          obtain ⟨h207, hW⟩ := hW
          refine ir_l (pc' := 36) rfl rfl rfl rfl rfl rfl ?_
          refine ir_l (pc' := 37) rfl rfl rfl rfl rfl rfl ?_
          refine ir_vgr (pc' := 40) (c := 614) rfl rfl rfl rfl rfl hv ?_
          refine ir_l (pc' := 41) rfl rfl rfl rfl rfl rfl ?_
          refine ir_via (pc' := 42) rfl rfl vg_614 rfl (Nat.le_of_ble_eq_true rfl) hv rfl h207 (fun r208 => ?_)
          refine ir_l (pc' := 43) rfl rfl rfl rfl rfl rfl ?_
          refine ir_i2l (pc' := 44) rfl rfl l1r.1 l1r.2 ?_
          refine ir_l (pc' := 45) rfl rfl rfl rfl rfl rfl ?_
          refine ir_i2l (pc' := 46) rfl rfl l2r.1 l2r.2 ?_
          refine ir_cVI (pc' := 49) rfl rfl rfl rfl rfl (Nat.le_of_ble_eq_true rfl) oo_X10_against vg_582 (w_against L ys d s hv (wga s 614 l3) r208 l1 (iR_l l1r) l2 (iR_l l2r) _ hW) (fun z210 s209 hr => ?_)
          obtain ⟨s209v, z210r, hW⟩ := hr
          refine ir_s (pc' := 51) rfl rfl rfl rfl rfl rfl ?_
          refine ir_l (pc' := 52) rfl rfl rfl rfl rfl rfl ?_
          refine ir_l (pc' := 54) rfl rfl rfl rfl rfl rfl ?_
          have J412 : ∀ v411 : Int, zR v411 → (((iR (l3 + v411)) ∧ ((fun b => I22 b ∧ r22 b < r22 t22) ((l3 + v411), z210, s209)))) → ir gG rm_P L ys (d + 7) rm_p_X10_cellOf (62, [(0, (2, ((582 : Nat) : Int))), (1, (0, l1)), (2, (0, l2)), (4, (0, z210))], [(0, v411), (0, l3)], s209) (fun r : im_Re => ∃ z, r.1 = some (0, z) ∧ (vI r.2 ∧ iR z ∧ Q z r.2)) := by
            intro v411 v411r hW
            obtain ⟨h413, hW⟩ := hW
            refine ir_add (pc' := 63) rfl rfl h413.1 h413.2 ?_
            refine ir_s (pc' := 64) rfl rfl rfl rfl rfl rfl ?_
            refine ir_goto (pc' := 22) rfl rfl ?_
            refine ir_w [(0, (2, ((582 : Nat) : Int))), (1, (0, l1)), (2, (0, l2)), (3, (0, (l3 + v411))), (4, (0, z210))] ⟨rfl, rfl, rfl, rfl, rfl, trivial⟩ ?_
            exact ih22 (l3 + v411) h413 z210 z210r s209 s209v hW.1 (Nat.lt_of_lt_of_le hW.2 (Nat.le_of_lt_succ hr22))
          refine ir_z_ge (pt := 61) (pc' := 57) rfl rfl rfl (fun c211 => ?_) (fun c211 => ?_)
          · refine ir_k (pc' := 62) (v := (0, 0)) rfl rfl rfl (fun _ => rfl) ?_
            refine ir_w [(0, (2, ((582 : Nat) : Int))), (1, (0, l1)), (2, (0, l2)), (4, (0, z210))] ⟨rfl, rfl, rfl, rfl, trivial⟩ ?_
            exact J412 0 (Or.inl rfl) (hW _ (by rw [if_pos c211]))
          · refine ir_k (pc' := 58) (v := (0, 1)) rfl rfl rfl (fun _ => rfl) ?_
            refine ir_goto (pc' := 62) rfl rfl ?_
            refine ir_w [(0, (2, ((582 : Nat) : Int))), (1, (0, l1)), (2, (0, l2)), (4, (0, z210))] ⟨rfl, rfl, rfl, rfl, trivial⟩ ?_
            exact J412 1 (Or.inr rfl) (hW _ (by rw [if_neg (fun z => c211 z)]))
  have J15 : ∀ (s : im_S) (hv : vI s), W_cellOf_15 s Q → ir gG rm_P L ys (d + 7) rm_p_X10_cellOf (15, [], [], s) (fun r : im_Re => ∃ z, r.1 = some (0, z) ∧ (vI r.2 ∧ iR z ∧ Q z r.2)) := by
    intro s hv hW
    unfold W_cellOf_15 at hW
    refine ir_k (pc' := 16) (v := (0, (-1))) rfl rfl rfl (fun _ => rfl) ?_
    exact ir_iret rfl rfl ⟨_, rfl, hv, (⟨by decide, by decide⟩ : iR (-1)), hW⟩
  unfold W_cellOf at hW
  refine ir_l (pc' := 1) rfl rfl rfl rfl rfl rfl ?_
  refine ir_l (pc' := 2) rfl rfl rfl rfl rfl rfl ?_
  refine ir_cSI (pc' := 5) rfl rfl rfl rfl rfl rfl (Nat.le_of_ble_eq_true rfl) (w_isNumber L ys (d + 6) s hv l1 l1r l2 l2r _ hW) (fun z415 s414 hr => ?_)
  obtain ⟨s414v, z415r, hW⟩ := hr
  refine ir_z_eq (pt := 15) (pc' := 8) rfl rfl rfl (fun c416 => ?_) (fun c416 => ?_)
  · have hW := hW.1 c416
    refine ir_w [] trivial ?_
    exact J15 s414 s414v hW
  · have hW := hW.2 c416
    refine ir_l (pc' := 9) rfl rfl rfl rfl rfl rfl ?_
    refine ir_vgz (pc' := 12) rfl rfl rfl rfl rfl s414v (fun r417 => ?_)
    refine ir_z_ne (pt := 17) (pc' := 15) rfl rfl rfl (fun c418 => ?_) (fun c418 => ?_)
    · have hW := hW.1 c418
      refine ir_k (pc' := 18) (v := (0, 0)) rfl rfl rfl (fun _ => rfl) ?_
      refine ir_s (pc' := 19) rfl rfl rfl rfl rfl rfl ?_
      refine ir_k (pc' := 20) (v := (0, (-1))) rfl rfl rfl (fun _ => rfl) ?_
      refine ir_s (pc' := 22) rfl rfl rfl rfl rfl rfl ?_
      refine ir_w [(0, (2, ((582 : Nat) : Int))), (1, (0, l1)), (2, (0, l2)), (3, (0, 0)), (4, (0, (-1)))] ⟨rfl, rfl, rfl, rfl, rfl, trivial⟩ ?_
      obtain ⟨I9, r9, hI9, hB9⟩ := hW
      exact J22 l1 l1r l2 l2r I9 r9 hB9 _ 0 (zR_i (Or.inl rfl)) (-1) (⟨by decide, by decide⟩ : iR (-1)) s414 s414v hI9 (Nat.lt_succ_self _)
    · have hW := hW.2 c418
      refine ir_w [] trivial ?_
      exact J15 s414 s414v hW
def W_cells (s : im_S) (Q : Int → im_S → Prop) : Prop := ((iR (2 * (wgf s 41))) ∧ (iR ((2 * (wgf s 41)) + 1)) ∧ (Q ((2 * (wgf s 41)) + 1) s))
set_option maxRecDepth 16384 in
theorem w_cells (L : Nat) (ys : Nat → Int32) (d : Nat) (s : im_S) (hv : vI s) (Q : Int → im_S → Prop) (hW : W_cells s Q) : icI gG rm_P L ys 0 (d + 1) 16 [(2, ((582 : Nat) : Int))] s (fun z9 s9 => vI s9 ∧ iR z9 ∧ Q z9 s9) := by
  refine ic_startM (M := rm_p_X10_cells) om_X10_cells (Nat.le_of_ble_eq_true rfl) ?_
  refine ir_w [(0, (2, ((582 : Nat) : Int)))] ⟨rfl, trivial⟩ ?_
  unfold W_cells at hW
  obtain ⟨h2, h3, hW⟩ := hW
  refine ir_k (pc' := 1) (v := (0, 2)) rfl rfl rfl (fun _ => rfl) ?_
  refine ir_l (pc' := 2) rfl rfl rfl rfl rfl rfl ?_
  refine ir_vgi (pc' := 5) rfl rfl rfl rfl rfl hv (fun r1 => ?_)
  refine ir_mul (pc' := 6) rfl rfl h2.1 h2.2 ?_
  refine ir_k (pc' := 7) (v := (0, 1)) rfl rfl rfl (fun _ => rfl) ?_
  refine ir_add (pc' := 8) rfl rfl h3.1 h3.2 ?_
  exact ir_iret rfl rfl ⟨_, rfl, hv, h3, hW⟩
def W_set (l1 : Int) (l2 : Int) (l3 : Int) (s : im_S) (Q : im_S → Prop) : Prop := ((iR (9 * l1)) ∧ (0 ≤ ((9 * l1) + l2) ∧ ((9 * l1) + l2) < 10800) ∧ (∀ s4, s4 = wpa s 599 ((9 * l1) + l2) l3 → (Q s4)))
set_option maxRecDepth 16384 in
theorem w_set (L : Nat) (ys : Nat → Int32) (d : Nat) (s : im_S) (hv : vI s) (l1 : Int) (l1r : iR l1) (l2 : Int) (l2r : iR l2) (l3 : Int) (l3r : iR l3) (Q : im_S → Prop) (hW : W_set l1 l2 l3 s Q) : icV gG rm_P L ys (d + 1) 90 [(2, ((582 : Nat) : Int)), (0, l1), (0, l2), (0, l3)] s (fun s9 => vI s9 ∧ Q s9) := by
  refine ic_startM (M := rm_p_X10_set) om_X10_set (Nat.le_of_ble_eq_true rfl) ?_
  refine ir_w [(0, (2, ((582 : Nat) : Int))), (1, (0, l1)), (2, (0, l2)), (3, (0, l3))] ⟨rfl, rfl, rfl, rfl, trivial⟩ ?_
  unfold W_set at hW
  obtain ⟨h1, h3, hW⟩ := hW
  have h2 : iR ((9 * l1) + l2) := ⟨by omega, by omega⟩
  refine ir_l (pc' := 1) rfl rfl rfl rfl rfl rfl ?_
  refine ir_vgr (pc' := 4) (c := 599) rfl rfl rfl rfl rfl hv ?_
  refine ir_k (pc' := 6) (v := (0, 9)) rfl rfl rfl (fun _ => rfl) ?_
  refine ir_l (pc' := 7) rfl rfl rfl rfl rfl rfl ?_
  refine ir_mul (pc' := 8) rfl rfl h1.1 h1.2 ?_
  refine ir_l (pc' := 9) rfl rfl rfl rfl rfl rfl ?_
  refine ir_add (pc' := 10) rfl rfl h2.1 h2.2 ?_
  refine ir_l (pc' := 11) rfl rfl rfl rfl rfl rfl ?_
  refine ir_vis (pc' := 12) rfl rfl vg_599 rfl (Nat.le_of_ble_eq_true rfl) hv rfl h3 l3r (fun s4 s4e s4v => ?_)
  have hW := hW s4 s4e
  exact ir_vret rfl rfl ⟨rfl, s4v, hW⟩
def W_gcd_45 (K45 : Int × Int × im_S → Prop) (l3 : Int) (l4 : Int) (l5 : Int) (s : im_S) (Q : Int → im_S → Prop) : Prop := ((0 ≤ l5 ∧ l5 < 700000) ∧ (((wga s 597 l5) = 0 → (W_keep l3 l4 s (fun z5 s4 => (Q z5 s4)))) ∧ (¬ ((wga s 597 l5) = 0) → (W_divide l4 l5 s (fun z7 s6 => (W_again l5 s6 (fun z9 s8 => (W_again z7 s8 (fun z11 s10 => (W_copyTo z9 l3 s10 (fun s12 => (W_limbs l3 s12 (fun z15 s14 => ((iR (l3 + z15)) ∧ (iR ((l3 + z15) + 1)) ∧ (W_copyTo z11 ((l3 + z15) + 1) s14 (fun s18 => (W_limbs ((l3 + z15) + 1) s18 (fun z21 s20 => ((iR (((l3 + z15) + 1) + z21)) ∧ (iR ((((l3 + z15) + 1) + z21) + 1)) ∧ (∀ s24, s24 = wpf s20 24 ((((l3 + z15) + 1) + z21) + 1) → (K45 (l3, ((l3 + z15) + 1), s24))))))))))))))))))))))
def W_gcd (l1 : Int) (l2 : Int) (s : im_S) (Q : Int → im_S → Prop) : Prop := (W_again l1 s (fun z27 s26 => (W_limbs z27 s26 (fun z29 s28 => ((0 ≤ z27 ∧ z27 < 700000) ∧ (∀ s31, s31 = wpa s28 597 z27 z29 → (W_again l2 s31 (fun z33 s32 => (W_limbs z33 s32 (fun z35 s34 => ((0 ≤ z33 ∧ z33 < 700000) ∧ (∀ s37, s37 = wpa s34 597 z33 z35 → (wloop (fun (K : Int × Int × im_S → Prop) (a : Int × Int × im_S) => W_gcd_45 K (wgf s 24) a.1 a.2.1 a.2.2 Q) (z27, z33, s37))))))))))))))
set_option maxRecDepth 16384 in
theorem w_gcd (L : Nat) (ys : Nat → Int32) (d : Nat) (s : im_S) (hv : vI s) (l1 : Int) (l1r : iR l1) (l2 : Int) (l2r : iR l2) (Q : Int → im_S → Prop) (hW : W_gcd l1 l2 s Q) : icI gG rm_P L ys 0 (d + 4) 43 [(2, ((582 : Nat) : Int)), (0, l1), (0, l2)] s (fun z9 s9 => vI s9 ∧ iR z9 ∧ Q z9 s9) := by
  refine ic_startM (M := rm_p_X10_gcd) om_X10_gcd (Nat.le_of_ble_eq_true rfl) ?_
  refine ir_w [(0, (2, ((582 : Nat) : Int))), (1, (0, l1)), (2, (0, l2))] ⟨rfl, rfl, rfl, trivial⟩ ?_
  have J45 : ∀ (l3 : Int) (l3r : iR l3) (I45 : Int × Int × im_S → Prop) (r45 : Int × Int × im_S → Nat) (hB45 : ∀ a : Int × Int × im_S, I45 a → W_gcd_45 (fun b => I45 b ∧ r45 b < r45 a) l3 a.1 a.2.1 a.2.2 Q), ∀ n45 : Nat, ∀ (l4 : Int) (l4r : iR l4) (l5 : Int) (l5r : iR l5) (s : im_S) (hv : vI s), I45 (l4, l5, s) → r45 (l4, l5, s) < n45 → ir gG rm_P L ys (d + 3) rm_p_X10_gcd (45, [(0, (2, ((582 : Nat) : Int))), (3, (0, l3)), (4, (0, l4)), (5, (0, l5))], [], s) (fun r : im_Re => ∃ z, r.1 = some (0, z) ∧ (vI r.2 ∧ iR z ∧ Q z r.2)) := by
    intro l3 l3r I45 r45 hB45 n45
    induction n45 with
    | zero => intro l4 l4r l5 l5r s hv hI hr; exact absurd hr (Nat.not_lt_zero _)
    | succ n45 ih45 =>
      intro l4 l4r l5 l5r s hv hI hr45
      obtain ⟨t45, ht45⟩ : ∃ t45 : Int × Int × im_S, t45 = (l4, l5, s) := ⟨_, rfl⟩
      rw [← ht45] at hr45
      have hW : W_gcd_45 (fun b => I45 b ∧ r45 b < r45 t45) l3 l4 l5 s Q := by have z := hB45 (l4, l5, s) hI; rw [ht45]; exact z
      unfold W_gcd_45 at hW
      obtain ⟨h1, hW⟩ := hW
      refine ir_l (pc' := 46) rfl rfl rfl rfl rfl rfl ?_
      refine ir_vgr (pc' := 49) (c := 597) rfl rfl rfl rfl rfl hv ?_
      refine ir_l (pc' := 51) rfl rfl rfl rfl rfl rfl ?_
      refine ir_via (pc' := 52) rfl rfl vg_597 rfl (Nat.le_of_ble_eq_true rfl) hv rfl h1 (fun r2 => ?_)
      refine ir_z_eq (pt := 133) (pc' := 55) rfl rfl rfl (fun c3 => ?_) (fun c3 => ?_)
      · have hW := hW.1 c3
        refine ir_l (pc' := 134) rfl rfl rfl rfl rfl rfl ?_
        refine ir_l (pc' := 135) rfl rfl rfl rfl rfl rfl ?_
        refine ir_l (pc' := 137) rfl rfl rfl rfl rfl rfl ?_
        refine ir_cVI (pc' := 140) rfl rfl rfl rfl rfl (Nat.le_of_ble_eq_true rfl) oo_X10_keep vg_582 (w_keep L ys d s hv l3 l3r l4 l4r _ hW) (fun z5 s4 hr => ?_)
        obtain ⟨s4v, z5r, hW⟩ := hr
        exact ir_iret rfl rfl ⟨_, rfl, s4v, z5r, hW⟩
      · have hW := hW.2 c3
        refine ir_l (pc' := 56) rfl rfl rfl rfl rfl rfl ?_
        refine ir_l (pc' := 58) rfl rfl rfl rfl rfl rfl ?_
        refine ir_l (pc' := 60) rfl rfl rfl rfl rfl rfl ?_
        refine ir_cVI (pc' := 63) rfl rfl rfl rfl rfl (Nat.le_of_ble_eq_true rfl) oo_X10_divide vg_582 (w_divide L ys d s hv l4 l4r l5 l5r _ hW) (fun z7 s6 hr => ?_)
        obtain ⟨s6v, z7r, hW⟩ := hr
        refine ir_s (pc' := 65) rfl rfl rfl rfl rfl rfl ?_
        refine ir_l (pc' := 66) rfl rfl rfl rfl rfl rfl ?_
        refine ir_l (pc' := 68) rfl rfl rfl rfl rfl rfl ?_
        refine ir_cVI (pc' := 71) rfl rfl rfl rfl rfl (Nat.le_of_ble_eq_true rfl) oo_X10_again vg_582 (w_again L ys d s6 s6v l5 l5r _ hW) (fun z9 s8 hr => ?_)
        obtain ⟨s8v, z9r, hW⟩ := hr
        refine ir_s (pc' := 73) rfl rfl rfl rfl rfl rfl ?_
        refine ir_l (pc' := 74) rfl rfl rfl rfl rfl rfl ?_
        refine ir_l (pc' := 76) rfl rfl rfl rfl rfl rfl ?_
        refine ir_cVI (pc' := 79) rfl rfl rfl rfl rfl (Nat.le_of_ble_eq_true rfl) oo_X10_again vg_582 (w_again L ys d s8 s8v z7 z7r _ hW) (fun z11 s10 hr => ?_)
        obtain ⟨s10v, z11r, hW⟩ := hr
        refine ir_s (pc' := 81) rfl rfl rfl rfl rfl rfl ?_
        refine ir_l (pc' := 82) rfl rfl rfl rfl rfl rfl ?_
        refine ir_l (pc' := 84) rfl rfl rfl rfl rfl rfl ?_
        refine ir_l (pc' := 85) rfl rfl rfl rfl rfl rfl ?_
        refine ir_cVV (pc' := 88) rfl rfl rfl rfl rfl (Nat.le_of_ble_eq_true rfl) oo_X10_copyTo vg_582 (w_copyTo L ys (d + 1) s10 s10v z9 z9r l3 l3r _ hW) (fun s12 hr => ?_)
        obtain ⟨s12v, hW⟩ := hr
        refine ir_l (pc' := 89) rfl rfl rfl rfl rfl rfl ?_
        refine ir_s (pc' := 91) rfl rfl rfl rfl rfl rfl ?_
        refine ir_l (pc' := 92) rfl rfl rfl rfl rfl rfl ?_
        refine ir_l (pc' := 93) rfl rfl rfl rfl rfl rfl ?_
        refine ir_l (pc' := 95) rfl rfl rfl rfl rfl rfl ?_
        refine ir_cVI (pc' := 98) rfl rfl rfl rfl rfl (Nat.le_of_ble_eq_true rfl) oo_X10_limbs vg_582 (w_limbs L ys (d + 2) s12 s12v l3 l3r _ hW) (fun z15 s14 hr => ?_)
        obtain ⟨s14v, z15r, hW⟩ := hr
        obtain ⟨h16, h17, hW⟩ := hW
        refine ir_add (pc' := 99) rfl rfl h16.1 h16.2 ?_
        refine ir_k (pc' := 100) (v := (0, 1)) rfl rfl rfl (fun _ => rfl) ?_
        refine ir_add (pc' := 101) rfl rfl h17.1 h17.2 ?_
        refine ir_s (pc' := 103) rfl rfl rfl rfl rfl rfl ?_
        refine ir_l (pc' := 104) rfl rfl rfl rfl rfl rfl ?_
        refine ir_l (pc' := 106) rfl rfl rfl rfl rfl rfl ?_
        refine ir_l (pc' := 108) rfl rfl rfl rfl rfl rfl ?_
        refine ir_cVV (pc' := 111) rfl rfl rfl rfl rfl (Nat.le_of_ble_eq_true rfl) oo_X10_copyTo vg_582 (w_copyTo L ys (d + 1) s14 s14v z11 z11r ((l3 + z15) + 1) h17 _ hW) (fun s18 hr => ?_)
        obtain ⟨s18v, hW⟩ := hr
        refine ir_l (pc' := 113) rfl rfl rfl rfl rfl rfl ?_
        refine ir_s (pc' := 115) rfl rfl rfl rfl rfl rfl ?_
        refine ir_l (pc' := 116) rfl rfl rfl rfl rfl rfl ?_
        refine ir_l (pc' := 118) rfl rfl rfl rfl rfl rfl ?_
        refine ir_l (pc' := 119) rfl rfl rfl rfl rfl rfl ?_
        refine ir_l (pc' := 121) rfl rfl rfl rfl rfl rfl ?_
        refine ir_cVI (pc' := 124) rfl rfl rfl rfl rfl (Nat.le_of_ble_eq_true rfl) oo_X10_limbs vg_582 (w_limbs L ys (d + 2) s18 s18v ((l3 + z15) + 1) h17 _ hW) (fun z21 s20 hr => ?_)
        obtain ⟨s20v, z21r, hW⟩ := hr
        obtain ⟨h22, h23, hW⟩ := hW
        refine ir_add (pc' := 125) rfl rfl h22.1 h22.2 ?_
        refine ir_k (pc' := 126) (v := (0, 1)) rfl rfl rfl (fun _ => rfl) ?_
        refine ir_add (pc' := 127) rfl rfl h23.1 h23.2 ?_
        refine ir_vpi (pc' := 130) rfl rfl rfl rfl rfl rfl rfl s20v h23 (fun s24 s24e s24v => ?_)
        have hW := hW s24 s24e
        refine ir_goto (pc' := 45) rfl rfl ?_
        refine ir_w [(0, (2, ((582 : Nat) : Int))), (3, (0, l3)), (4, (0, l3)), (5, (0, ((l3 + z15) + 1)))] ⟨rfl, rfl, rfl, rfl, trivial⟩ ?_
        exact ih45 l3 l3r ((l3 + z15) + 1) h17 s24 s24v hW.1 (Nat.lt_of_lt_of_le hW.2 (Nat.le_of_lt_succ hr45))
  unfold W_gcd at hW
  refine ir_l (pc' := 1) rfl rfl rfl rfl rfl rfl ?_
  refine ir_vgi (pc' := 4) rfl rfl rfl rfl rfl hv (fun r25 => ?_)
  refine ir_s (pc' := 5) rfl rfl rfl rfl rfl rfl ?_
  refine ir_l (pc' := 6) rfl rfl rfl rfl rfl rfl ?_
  refine ir_l (pc' := 7) rfl rfl rfl rfl rfl rfl ?_
  refine ir_cVI (pc' := 10) rfl rfl rfl rfl rfl (Nat.le_of_ble_eq_true rfl) oo_X10_again vg_582 (w_again L ys d s hv l1 l1r _ hW) (fun z27 s26 hr => ?_)
  obtain ⟨s26v, z27r, hW⟩ := hr
  refine ir_s (pc' := 12) rfl rfl rfl rfl rfl rfl ?_
  refine ir_l (pc' := 13) rfl rfl rfl rfl rfl rfl ?_
  refine ir_vgr (pc' := 16) (c := 597) rfl rfl rfl rfl rfl s26v ?_
  refine ir_l (pc' := 18) rfl rfl rfl rfl rfl rfl ?_
  refine ir_l (pc' := 19) rfl rfl rfl rfl rfl rfl ?_
  refine ir_l (pc' := 21) rfl rfl rfl rfl rfl rfl ?_
  refine ir_cVI (pc' := 24) rfl rfl rfl rfl rfl (Nat.le_of_ble_eq_true rfl) oo_X10_limbs vg_582 (w_limbs L ys (d + 2) s26 s26v z27 z27r _ hW) (fun z29 s28 hr => ?_)
  obtain ⟨s28v, z29r, hW⟩ := hr
  obtain ⟨h30, hW⟩ := hW
  refine ir_vis (pc' := 25) rfl rfl vg_597 rfl (Nat.le_of_ble_eq_true rfl) s28v rfl h30 z29r (fun s31 s31e s31v => ?_)
  have hW := hW s31 s31e
  refine ir_l (pc' := 26) rfl rfl rfl rfl rfl rfl ?_
  refine ir_l (pc' := 27) rfl rfl rfl rfl rfl rfl ?_
  refine ir_cVI (pc' := 30) rfl rfl rfl rfl rfl (Nat.le_of_ble_eq_true rfl) oo_X10_again vg_582 (w_again L ys d s31 s31v l2 l2r _ hW) (fun z33 s32 hr => ?_)
  obtain ⟨s32v, z33r, hW⟩ := hr
  refine ir_s (pc' := 32) rfl rfl rfl rfl rfl rfl ?_
  refine ir_l (pc' := 33) rfl rfl rfl rfl rfl rfl ?_
  refine ir_vgr (pc' := 36) (c := 597) rfl rfl rfl rfl rfl s32v ?_
  refine ir_l (pc' := 38) rfl rfl rfl rfl rfl rfl ?_
  refine ir_l (pc' := 39) rfl rfl rfl rfl rfl rfl ?_
  refine ir_l (pc' := 41) rfl rfl rfl rfl rfl rfl ?_
  refine ir_cVI (pc' := 44) rfl rfl rfl rfl rfl (Nat.le_of_ble_eq_true rfl) oo_X10_limbs vg_582 (w_limbs L ys (d + 2) s32 s32v z33 z33r _ hW) (fun z35 s34 hr => ?_)
  obtain ⟨s34v, z35r, hW⟩ := hr
  obtain ⟨h36, hW⟩ := hW
  refine ir_vis (pc' := 45) rfl rfl vg_597 rfl (Nat.le_of_ble_eq_true rfl) s34v rfl h36 z35r (fun s37 s37e s37v => ?_)
  have hW := hW s37 s37e
  refine ir_w [(0, (2, ((582 : Nat) : Int))), (3, (0, (wgf s 24))), (4, (0, z27)), (5, (0, z33))] ⟨rfl, rfl, rfl, rfl, trivial⟩ ?_
  obtain ⟨I9, r9, hI9, hB9⟩ := hW
  exact J45 (wgf s 24) r25 I9 r9 hB9 _ z27 z27r z33 z33r s37 s37v hI9 (Nat.lt_succ_self _)
def W_clean_166 (K121 : Int × im_S → Prop) (l1 : Int) (l3 : Int) (l4 : Int) (l5 : Int) (k1 : Int) (k2 : Int) (k3 : Int) (s : im_S) (Q : im_S → Prop) : Prop := (W_set k1 k2 k3 s (fun s1 => ((iR (l5 + 1)) ∧ (K121 ((l5 + 1), s1)))))
def W_clean_121 (K121 : Int × im_S → Prop) (l1 : Int) (l3 : Int) (l4 : Int) (l5 : Int) (s : im_S) (Q : im_S → Prop) : Prop := ((0 ≤ l1 ∧ l1 < 1200) ∧ (((wga s 598 l1) < l5 → (Q s)) ∧ (¬ ((wga s 598 l1) < l5) → (W_at l1 l5 s (fun z8 s7 => (W_over z8 l3 s7 (fun z10 s9 => ((l4 = 0 → (W_clean_166 K121 l1 l3 l4 l5 l1 l5 z10 s9 Q)) ∧ (¬ (l4 = 0) → (W_less z10 s9 (fun z13 s12 => (W_clean_166 K121 l1 l3 l4 l5 l1 l5 z13 s12 Q))))))))))))
def W_clean_116 (l1 : Int) (l3 : Int) (k0 : Int) (s : im_S) (Q : im_S → Prop) : Prop := (wloop (fun (K : Int × im_S → Prop) (a : Int × im_S) => W_clean_121 K l1 l3 k0 a.1 a.2 Q) (0, s))
def W_clean_59 (K59 : Int × Int × im_S → Prop) (l1 : Int) (l2 : Int) (l3 : Int) (l4 : Int) (s : im_S) (Q : im_S → Prop) : Prop := ((0 ≤ l1 ∧ l1 < 1200) ∧ (((wga s 598 l1) < l4 → ((l2 = 0 → (W_clean_116 l1 l3 0 s Q)) ∧ (¬ (l2 = 0) → ((0 ≤ l1 ∧ l1 < 1200) ∧ (W_at l1 (wga s 598 l1) s (fun z21 s20 => (W_sgn z21 s20 (fun z23 s22 => (∀ v224 : Int, v224 = (if 0 ≤ z23 then 0 else 1) → (W_clean_116 l1 l3 v224 s22 Q)))))))))) ∧ (¬ ((wga s 598 l1) < l4) → (W_at l1 l4 s (fun z227 s226 => (W_gcd l3 z227 s226 (fun z229 s228 => ((iR (l4 + 1)) ∧ (K59 (z229, (l4 + 1), s228))))))))))
def W_clean_40 (l1 : Int) (l2 : Int) (s : im_S) (Q : im_S → Prop) : Prop := ((0 ≤ l1 ∧ l1 < 1200) ∧ ((0 ≤ (wga s 598 l1) → (W_whole 0 s (fun z235 s234 => (wloop (fun (K : Int × Int × im_S → Prop) (a : Int × Int × im_S) => W_clean_59 K l1 l2 a.1 a.2.1 a.2.2 Q) (z235, 0, s234))))) ∧ (¬ (0 ≤ (wga s 598 l1)) → (Q s))))
def W_clean_0 (K0 : im_S → Prop) (l1 : Int) (l2 : Int) (s : im_S) (Q : im_S → Prop) : Prop := ((0 ≤ l1 ∧ l1 < 1200) ∧ (((wga s 598 l1) < 0 → (W_clean_40 l1 l2 s Q)) ∧ (¬ ((wga s 598 l1) < 0) → ((0 ≤ l1 ∧ l1 < 1200) ∧ (W_at l1 (wga s 598 l1) s (fun z242 s241 => (W_sgn z242 s241 (fun z244 s243 => ((¬ (z244 = 0) → (W_clean_40 l1 l2 s243 Q)) ∧ (z244 = 0 → ((0 ≤ l1 ∧ l1 < 1200) ∧ (iR ((wga s243 598 l1) - 1)) ∧ (0 ≤ l1 ∧ l1 < 1200) ∧ (∀ s250, s250 = wpa s243 598 l1 ((wga s243 598 l1) - 1) → (K0 (s250))))))))))))))
def W_clean (l1 : Int) (l2 : Int) (s : im_S) (Q : im_S → Prop) : Prop := (wloop (fun (K : im_S → Prop) (a : im_S) => W_clean_0 K l1 l2 a Q) (s))
set_option maxRecDepth 16384 in
theorem w_clean (L : Nat) (ys : Nat → Int32) (d : Nat) (s : im_S) (hv : vI s) (l1 : Int) (l1r : iR l1) (l2 : Int) (l2r : zR l2) (Q : im_S → Prop) (hW : W_clean l1 l2 s Q) : icV gG rm_P L ys (d + 7) 19 [(2, ((582 : Nat) : Int)), (0, l1), (0, l2)] s (fun s9 => vI s9 ∧ Q s9) := by
  refine ic_startM (M := rm_p_X10_clean) om_X10_clean (Nat.le_of_ble_eq_true rfl) ?_
  refine ir_w [(0, (2, ((582 : Nat) : Int))), (1, (0, l1)), (2, (0, l2))] ⟨rfl, rfl, rfl, trivial⟩ ?_
  have J121 : ∀ (l1 : Int) (l1r : iR l1) (l3 : Int) (l3r : iR l3) (l4 : Int) (l4r : iR l4) (I121 : Int × im_S → Prop) (r121 : Int × im_S → Nat) (hB121 : ∀ a : Int × im_S, I121 a → W_clean_121 (fun b => I121 b ∧ r121 b < r121 a) l1 l3 l4 a.1 a.2 Q), ∀ n121 : Nat, ∀ (l5 : Int) (l5r : iR l5) (s : im_S) (hv : vI s), I121 (l5, s) → r121 (l5, s) < n121 → ir gG rm_P L ys (d + 6) rm_p_X10_clean (121, [(0, (2, ((582 : Nat) : Int))), (1, (0, l1)), (3, (0, l3)), (4, (0, l4)), (5, (0, l5))], [], s) (fun r : im_Re => r.1 = none ∧ (vI r.2 ∧ Q r.2)) := by
    intro l1 l1r l3 l3r l4 l4r I121 r121 hB121 n121
    induction n121 with
    | zero => intro l5 l5r s hv hI hr; exact absurd hr (Nat.not_lt_zero _)
    | succ n121 ih121 =>
      intro l5 l5r s hv hI hr121
      obtain ⟨t121, ht121⟩ : ∃ t121 : Int × im_S, t121 = (l5, s) := ⟨_, rfl⟩
      rw [← ht121] at hr121
      have hW : W_clean_121 (fun b => I121 b ∧ r121 b < r121 t121) l1 l3 l4 l5 s Q := by have z := hB121 (l5, s) hI; rw [ht121]; exact z
      have J166 : ∀ (l5 : Int) (l5r : iR l5) (k1 : Int) (k1r : iR k1) (k2 : Int) (k2r : iR k2) (k3 : Int) (k3r : iR k3) (s : im_S) (hv : vI s), W_clean_166 (fun b => I121 b ∧ r121 b < r121 t121) l1 l3 l4 l5 k1 k2 k3 s Q → ir gG rm_P L ys (d + 6) rm_p_X10_clean (166, [(0, (2, ((582 : Nat) : Int))), (1, (0, l1)), (3, (0, l3)), (4, (0, l4)), (5, (0, l5))], [(0, k3), (0, k2), (0, k1), (2, ((582 : Nat) : Int))], s) (fun r : im_Re => r.1 = none ∧ (vI r.2 ∧ Q r.2)) := by
        intro l5 l5r k1 k1r k2 k2r k3 k3r s hv hW
        unfold W_clean_166 at hW
        refine ir_cVV (pc' := 169) rfl rfl rfl rfl rfl (Nat.le_of_ble_eq_true rfl) oo_X10_set vg_582 (w_set L ys (d + 5) s hv k1 k1r k2 k2r k3 k3r _ hW) (fun s1 hr => ?_)
        obtain ⟨s1v, hW⟩ := hr
        obtain ⟨h3, hW⟩ := hW
        refine ir_inc (pc' := 172) rfl rfl rfl rfl rfl h3.1 h3.2 ?_
        refine ir_goto (pc' := 121) rfl rfl ?_
        refine ir_w [(0, (2, ((582 : Nat) : Int))), (1, (0, l1)), (3, (0, l3)), (4, (0, l4)), (5, (0, (l5 + 1)))] ⟨rfl, rfl, rfl, rfl, rfl, trivial⟩ ?_
        exact ih121 (l5 + 1) h3 s1 s1v hW.1 (Nat.lt_of_lt_of_le hW.2 (Nat.le_of_lt_succ hr121))
      unfold W_clean_121 at hW
      obtain ⟨h4, hW⟩ := hW
      refine ir_l (pc' := 123) rfl rfl rfl rfl rfl rfl ?_
      refine ir_l (pc' := 124) rfl rfl rfl rfl rfl rfl ?_
      refine ir_vgr (pc' := 127) (c := 598) rfl rfl rfl rfl rfl hv ?_
      refine ir_l (pc' := 128) rfl rfl rfl rfl rfl rfl ?_
      refine ir_via (pc' := 129) rfl rfl vg_598 rfl (Nat.le_of_ble_eq_true rfl) hv rfl h4 (fun r5 => ?_)
      refine ir_c_gt (pt := 175) (pc' := 132) rfl rfl rfl (fun c6 => ?_) (fun c6 => ?_)
      · have hW := hW.1 c6
        exact ir_vret rfl rfl ⟨rfl, hv, hW⟩
      · have hW := hW.2 c6
        refine ir_l (pc' := 133) rfl rfl rfl rfl rfl rfl ?_
        refine ir_l (pc' := 134) rfl rfl rfl rfl rfl rfl ?_
        refine ir_l (pc' := 135) rfl rfl rfl rfl rfl rfl ?_
        refine ir_l (pc' := 137) rfl rfl rfl rfl rfl rfl ?_
        refine ir_cVI (pc' := 140) rfl rfl rfl rfl rfl (Nat.le_of_ble_eq_true rfl) oo_X10_at vg_582 (w_at L ys (d + 5) s hv l1 l1r l5 l5r _ hW) (fun z8 s7 hr => ?_)
        obtain ⟨s7v, z8r, hW⟩ := hr
        refine ir_l (pc' := 141) rfl rfl rfl rfl rfl rfl ?_
        refine ir_cVI (pc' := 144) rfl rfl rfl rfl rfl (Nat.le_of_ble_eq_true rfl) oo_X10_over vg_582 (w_over L ys d s7 s7v z8 z8r l3 l3r _ hW) (fun z10 s9 hr => ?_)
        obtain ⟨s9v, z10r, hW⟩ := hr
        refine ir_s (pc' := 146) rfl rfl rfl rfl rfl rfl ?_
        refine ir_l (pc' := 147) rfl rfl rfl rfl rfl rfl ?_
        refine ir_l (pc' := 148) rfl rfl rfl rfl rfl rfl ?_
        refine ir_l (pc' := 150) rfl rfl rfl rfl rfl rfl ?_
        refine ir_l (pc' := 152) rfl rfl rfl rfl rfl rfl ?_
        refine ir_z_eq (pt := 164) (pc' := 155) rfl rfl rfl (fun c11 => ?_) (fun c11 => ?_)
        · have hW := hW.1 c11
          refine ir_l (pc' := 166) rfl rfl rfl rfl rfl rfl ?_
          refine ir_w [(0, (2, ((582 : Nat) : Int))), (1, (0, l1)), (3, (0, l3)), (4, (0, l4)), (5, (0, l5))] ⟨rfl, rfl, rfl, rfl, rfl, trivial⟩ ?_
          exact J166 l5 l5r l1 l1r l5 l5r z10 z10r s9 s9v hW
        · have hW := hW.2 c11
          refine ir_l (pc' := 156) rfl rfl rfl rfl rfl rfl ?_
          refine ir_l (pc' := 158) rfl rfl rfl rfl rfl rfl ?_
          refine ir_cVI (pc' := 161) rfl rfl rfl rfl rfl (Nat.le_of_ble_eq_true rfl) oo_X10_less vg_582 (w_less L ys (d + 2) s9 s9v z10 z10r _ hW) (fun z13 s12 hr => ?_)
          obtain ⟨s12v, z13r, hW⟩ := hr
          refine ir_goto (pc' := 166) rfl rfl ?_
          refine ir_w [(0, (2, ((582 : Nat) : Int))), (1, (0, l1)), (3, (0, l3)), (4, (0, l4)), (5, (0, l5))] ⟨rfl, rfl, rfl, rfl, rfl, trivial⟩ ?_
          exact J166 l5 l5r l1 l1r l5 l5r z13 z13r s12 s12v hW
  have J116 : ∀ (l1 : Int) (l1r : iR l1) (l3 : Int) (l3r : iR l3) (k0 : Int) (k0r : zR k0) (s : im_S) (hv : vI s), W_clean_116 l1 l3 k0 s Q → ir gG rm_P L ys (d + 6) rm_p_X10_clean (116, [(0, (2, ((582 : Nat) : Int))), (1, (0, l1)), (3, (0, l3))], [(0, k0)], s) (fun r : im_Re => r.1 = none ∧ (vI r.2 ∧ Q r.2)) := by
    intro l1 l1r l3 l3r k0 k0r s hv hW
    unfold W_clean_116 at hW
    refine ir_s (pc' := 118) rfl rfl rfl rfl rfl rfl ?_
    refine ir_k (pc' := 119) (v := (0, 0)) rfl rfl rfl (fun _ => rfl) ?_
    refine ir_s (pc' := 121) rfl rfl rfl rfl rfl rfl ?_
    refine ir_w [(0, (2, ((582 : Nat) : Int))), (1, (0, l1)), (3, (0, l3)), (4, (0, k0)), (5, (0, 0))] ⟨rfl, rfl, rfl, rfl, rfl, trivial⟩ ?_
    obtain ⟨I9, r9, hI9, hB9⟩ := hW
    exact J121 l1 l1r l3 l3r k0 (zR_i k0r) I9 r9 hB9 _ 0 (zR_i (Or.inl rfl)) s hv hI9 (Nat.lt_succ_self _)
  have J59 : ∀ (l1 : Int) (l1r : iR l1) (l2 : Int) (l2r : zR l2) (I59 : Int × Int × im_S → Prop) (r59 : Int × Int × im_S → Nat) (hB59 : ∀ a : Int × Int × im_S, I59 a → W_clean_59 (fun b => I59 b ∧ r59 b < r59 a) l1 l2 a.1 a.2.1 a.2.2 Q), ∀ n59 : Nat, ∀ (l3 : Int) (l3r : iR l3) (l4 : Int) (l4r : iR l4) (s : im_S) (hv : vI s), I59 (l3, l4, s) → r59 (l3, l4, s) < n59 → ir gG rm_P L ys (d + 6) rm_p_X10_clean (59, [(0, (2, ((582 : Nat) : Int))), (1, (0, l1)), (2, (0, l2)), (3, (0, l3)), (4, (0, l4))], [], s) (fun r : im_Re => r.1 = none ∧ (vI r.2 ∧ Q r.2)) := by
    intro l1 l1r l2 l2r I59 r59 hB59 n59
    induction n59 with
    | zero => intro l3 l3r l4 l4r s hv hI hr; exact absurd hr (Nat.not_lt_zero _)
    | succ n59 ih59 =>
      intro l3 l3r l4 l4r s hv hI hr59
      obtain ⟨t59, ht59⟩ : ∃ t59 : Int × Int × im_S, t59 = (l3, l4, s) := ⟨_, rfl⟩
      rw [← ht59] at hr59
      have hW : W_clean_59 (fun b => I59 b ∧ r59 b < r59 t59) l1 l2 l3 l4 s Q := by have z := hB59 (l3, l4, s) hI; rw [ht59]; exact z
      unfold W_clean_59 at hW
      obtain ⟨h14, hW⟩ := hW
      refine ir_l (pc' := 61) rfl rfl rfl rfl rfl rfl ?_
      refine ir_l (pc' := 62) rfl rfl rfl rfl rfl rfl ?_
      refine ir_vgr (pc' := 65) (c := 598) rfl rfl rfl rfl rfl hv ?_
      refine ir_l (pc' := 66) rfl rfl rfl rfl rfl rfl ?_
      refine ir_via (pc' := 67) rfl rfl vg_598 rfl (Nat.le_of_ble_eq_true rfl) hv rfl h14 (fun r15 => ?_)
      refine ir_c_gt (pt := 89) (pc' := 70) rfl rfl rfl (fun c16 => ?_) (fun c16 => ?_)
      · have hW := hW.1 c16
        refine ir_l (pc' := 90) rfl rfl rfl rfl rfl rfl ?_
        refine ir_z_eq (pt := 115) (pc' := 93) rfl rfl rfl (fun c17 => ?_) (fun c17 => ?_)
        · have hW := hW.1 c17
          refine ir_k (pc' := 116) (v := (0, 0)) rfl rfl rfl (fun _ => rfl) ?_
          refine ir_w [(0, (2, ((582 : Nat) : Int))), (1, (0, l1)), (3, (0, l3))] ⟨rfl, rfl, rfl, trivial⟩ ?_
          exact J116 l1 l1r l3 l3r 0 (Or.inl rfl) s hv hW
        · have hW := hW.2 c17
          obtain ⟨h18, hW⟩ := hW
          refine ir_l (pc' := 94) rfl rfl rfl rfl rfl rfl ?_
          refine ir_l (pc' := 95) rfl rfl rfl rfl rfl rfl ?_
          refine ir_l (pc' := 96) rfl rfl rfl rfl rfl rfl ?_
          refine ir_l (pc' := 97) rfl rfl rfl rfl rfl rfl ?_
          refine ir_vgr (pc' := 100) (c := 598) rfl rfl rfl rfl rfl hv ?_
          refine ir_l (pc' := 101) rfl rfl rfl rfl rfl rfl ?_
          refine ir_via (pc' := 102) rfl rfl vg_598 rfl (Nat.le_of_ble_eq_true rfl) hv rfl h18 (fun r19 => ?_)
          refine ir_cVI (pc' := 105) rfl rfl rfl rfl rfl (Nat.le_of_ble_eq_true rfl) oo_X10_at vg_582 (w_at L ys (d + 5) s hv l1 l1r (wga s 598 l1) r19 _ hW) (fun z21 s20 hr => ?_)
          obtain ⟨s20v, z21r, hW⟩ := hr
          refine ir_cVI (pc' := 108) rfl rfl rfl rfl rfl (Nat.le_of_ble_eq_true rfl) oo_X10_sgn vg_582 (w_sgn L ys (d + 5) s20 s20v z21 z21r _ hW) (fun z23 s22 hr => ?_)
          obtain ⟨s22v, z23r, hW⟩ := hr
          have J225 : ∀ v224 : Int, zR v224 → ((W_clean_116 l1 l3 v224 s22 Q)) → ir gG rm_P L ys (d + 6) rm_p_X10_clean (116, [(0, (2, ((582 : Nat) : Int))), (1, (0, l1)), (3, (0, l3))], [(0, v224)], s22) (fun r : im_Re => r.1 = none ∧ (vI r.2 ∧ Q r.2)) := by
            intro v224 v224r hW
            refine ir_w [(0, (2, ((582 : Nat) : Int))), (1, (0, l1)), (3, (0, l3))] ⟨rfl, rfl, rfl, trivial⟩ ?_
            exact J116 l1 l1r l3 l3r v224 v224r s22 s22v hW
          refine ir_z_ge (pt := 115) (pc' := 111) rfl rfl rfl (fun c24 => ?_) (fun c24 => ?_)
          · refine ir_k (pc' := 116) (v := (0, 0)) rfl rfl rfl (fun _ => rfl) ?_
            refine ir_w [(0, (2, ((582 : Nat) : Int))), (1, (0, l1)), (3, (0, l3))] ⟨rfl, rfl, rfl, trivial⟩ ?_
            exact J225 0 (Or.inl rfl) (hW _ (by rw [if_pos c24]))
          · refine ir_k (pc' := 112) (v := (0, 1)) rfl rfl rfl (fun _ => rfl) ?_
            refine ir_goto (pc' := 116) rfl rfl ?_
            refine ir_w [(0, (2, ((582 : Nat) : Int))), (1, (0, l1)), (3, (0, l3))] ⟨rfl, rfl, rfl, trivial⟩ ?_
            exact J225 1 (Or.inr rfl) (hW _ (by rw [if_neg (fun z => c24 z)]))
      · have hW := hW.2 c16
        refine ir_l (pc' := 71) rfl rfl rfl rfl rfl rfl ?_
        refine ir_l (pc' := 72) rfl rfl rfl rfl rfl rfl ?_
        refine ir_l (pc' := 73) rfl rfl rfl rfl rfl rfl ?_
        refine ir_l (pc' := 74) rfl rfl rfl rfl rfl rfl ?_
        refine ir_l (pc' := 76) rfl rfl rfl rfl rfl rfl ?_
        refine ir_cVI (pc' := 79) rfl rfl rfl rfl rfl (Nat.le_of_ble_eq_true rfl) oo_X10_at vg_582 (w_at L ys (d + 5) s hv l1 l1r l4 l4r _ hW) (fun z227 s226 hr => ?_)
        obtain ⟨s226v, z227r, hW⟩ := hr
        refine ir_cVI (pc' := 82) rfl rfl rfl rfl rfl (Nat.le_of_ble_eq_true rfl) oo_X10_gcd vg_582 (w_gcd L ys (d + 2) s226 s226v l3 l3r z227 z227r _ hW) (fun z229 s228 hr => ?_)
        obtain ⟨s228v, z229r, hW⟩ := hr
        obtain ⟨h230, hW⟩ := hW
        refine ir_s (pc' := 83) rfl rfl rfl rfl rfl rfl ?_
        refine ir_inc (pc' := 86) rfl rfl rfl rfl rfl h230.1 h230.2 ?_
        refine ir_goto (pc' := 59) rfl rfl ?_
        refine ir_w [(0, (2, ((582 : Nat) : Int))), (1, (0, l1)), (2, (0, l2)), (3, (0, z229)), (4, (0, (l4 + 1)))] ⟨rfl, rfl, rfl, rfl, rfl, trivial⟩ ?_
        exact ih59 z229 z229r (l4 + 1) h230 s228 s228v hW.1 (Nat.lt_of_lt_of_le hW.2 (Nat.le_of_lt_succ hr59))
  have J40 : ∀ (l1 : Int) (l1r : iR l1) (l2 : Int) (l2r : zR l2) (s : im_S) (hv : vI s), W_clean_40 l1 l2 s Q → ir gG rm_P L ys (d + 6) rm_p_X10_clean (40, [(0, (2, ((582 : Nat) : Int))), (1, (0, l1)), (2, (0, l2))], [], s) (fun r : im_Re => r.1 = none ∧ (vI r.2 ∧ Q r.2)) := by
    intro l1 l1r l2 l2r s hv hW
    unfold W_clean_40 at hW
    obtain ⟨h231, hW⟩ := hW
    refine ir_l (pc' := 41) rfl rfl rfl rfl rfl rfl ?_
    refine ir_vgr (pc' := 44) (c := 598) rfl rfl rfl rfl rfl hv ?_
    refine ir_l (pc' := 45) rfl rfl rfl rfl rfl rfl ?_
    refine ir_via (pc' := 46) rfl rfl vg_598 rfl (Nat.le_of_ble_eq_true rfl) hv rfl h231 (fun r232 => ?_)
    refine ir_z_ge (pt := 50) (pc' := 49) rfl rfl rfl (fun c233 => ?_) (fun c233 => ?_)
    · have hW := hW.1 c233
      refine ir_l (pc' := 51) rfl rfl rfl rfl rfl rfl ?_
      refine ir_k (pc' := 52) (v := (1, 0)) rfl rfl rfl (fun _ => rfl) ?_
      refine ir_cVI (pc' := 55) rfl rfl rfl rfl rfl (Nat.le_of_ble_eq_true rfl) oo_X10_whole vg_582 (w_whole L ys (d + 5) s hv 0 (⟨by decide, by decide⟩ : lR 0) _ hW) (fun z235 s234 hr => ?_)
      obtain ⟨s234v, z235r, hW⟩ := hr
      refine ir_s (pc' := 56) rfl rfl rfl rfl rfl rfl ?_
      refine ir_k (pc' := 57) (v := (0, 0)) rfl rfl rfl (fun _ => rfl) ?_
      refine ir_s (pc' := 59) rfl rfl rfl rfl rfl rfl ?_
      refine ir_w [(0, (2, ((582 : Nat) : Int))), (1, (0, l1)), (2, (0, l2)), (3, (0, z235)), (4, (0, 0))] ⟨rfl, rfl, rfl, rfl, rfl, trivial⟩ ?_
      obtain ⟨I9, r9, hI9, hB9⟩ := hW
      exact J59 l1 l1r l2 l2r I9 r9 hB9 _ z235 z235r 0 (zR_i (Or.inl rfl)) s234 s234v hI9 (Nat.lt_succ_self _)
    · have hW := hW.2 c233
      exact ir_vret rfl rfl ⟨rfl, hv, hW⟩
  have J0 : ∀ (l1 : Int) (l1r : iR l1) (l2 : Int) (l2r : zR l2) (I0 : im_S → Prop) (r0 : im_S → Nat) (hB0 : ∀ a : im_S, I0 a → W_clean_0 (fun b => I0 b ∧ r0 b < r0 a) l1 l2 a Q), ∀ n0 : Nat, ∀ (s : im_S) (hv : vI s), I0 (s) → r0 (s) < n0 → ir gG rm_P L ys (d + 6) rm_p_X10_clean (0, [(0, (2, ((582 : Nat) : Int))), (1, (0, l1)), (2, (0, l2))], [], s) (fun r : im_Re => r.1 = none ∧ (vI r.2 ∧ Q r.2)) := by
    intro l1 l1r l2 l2r I0 r0 hB0 n0
    induction n0 with
    | zero => intro s hv hI hr; exact absurd hr (Nat.not_lt_zero _)
    | succ n0 ih0 =>
      intro s hv hI hr0
      obtain ⟨t0, ht0⟩ : ∃ t0 : im_S, t0 = (s) := ⟨_, rfl⟩
      rw [← ht0] at hr0
      have hW : W_clean_0 (fun b => I0 b ∧ r0 b < r0 t0) l1 l2 s Q := by have z := hB0 (s) hI; rw [ht0]; exact z
      unfold W_clean_0 at hW
      obtain ⟨h236, hW⟩ := hW
      refine ir_l (pc' := 1) rfl rfl rfl rfl rfl rfl ?_
      refine ir_vgr (pc' := 4) (c := 598) rfl rfl rfl rfl rfl hv ?_
      refine ir_l (pc' := 5) rfl rfl rfl rfl rfl rfl ?_
      refine ir_via (pc' := 6) rfl rfl vg_598 rfl (Nat.le_of_ble_eq_true rfl) hv rfl h236 (fun r237 => ?_)
      refine ir_z_lt (pt := 40) (pc' := 9) rfl rfl rfl (fun c238 => ?_) (fun c238 => ?_)
      · have hW := hW.1 c238
        refine ir_w [(0, (2, ((582 : Nat) : Int))), (1, (0, l1)), (2, (0, l2))] ⟨rfl, rfl, rfl, trivial⟩ ?_
        exact J40 l1 l1r l2 l2r s hv hW
      · have hW := hW.2 c238
        obtain ⟨h239, hW⟩ := hW
        refine ir_l (pc' := 10) rfl rfl rfl rfl rfl rfl ?_
        refine ir_l (pc' := 11) rfl rfl rfl rfl rfl rfl ?_
        refine ir_l (pc' := 12) rfl rfl rfl rfl rfl rfl ?_
        refine ir_l (pc' := 13) rfl rfl rfl rfl rfl rfl ?_
        refine ir_vgr (pc' := 16) (c := 598) rfl rfl rfl rfl rfl hv ?_
        refine ir_l (pc' := 17) rfl rfl rfl rfl rfl rfl ?_
        refine ir_via (pc' := 18) rfl rfl vg_598 rfl (Nat.le_of_ble_eq_true rfl) hv rfl h239 (fun r240 => ?_)
        refine ir_cVI (pc' := 21) rfl rfl rfl rfl rfl (Nat.le_of_ble_eq_true rfl) oo_X10_at vg_582 (w_at L ys (d + 5) s hv l1 l1r (wga s 598 l1) r240 _ hW) (fun z242 s241 hr => ?_)
        obtain ⟨s241v, z242r, hW⟩ := hr
        refine ir_cVI (pc' := 24) rfl rfl rfl rfl rfl (Nat.le_of_ble_eq_true rfl) oo_X10_sgn vg_582 (w_sgn L ys (d + 5) s241 s241v z242 z242r _ hW) (fun z244 s243 hr => ?_)
        obtain ⟨s243v, z244r, hW⟩ := hr
        refine ir_z_ne (pt := 40) (pc' := 27) rfl rfl rfl (fun c245 => ?_) (fun c245 => ?_)
        · have hW := hW.1 c245
          refine ir_w [(0, (2, ((582 : Nat) : Int))), (1, (0, l1)), (2, (0, l2))] ⟨rfl, rfl, rfl, trivial⟩ ?_
          exact J40 l1 l1r l2 l2r s243 s243v hW
        · have hW := hW.2 c245
          obtain ⟨h246, h248, h249, hW⟩ := hW
          refine ir_l (pc' := 28) rfl rfl rfl rfl rfl rfl ?_
          refine ir_vgr (pc' := 31) (c := 598) rfl rfl rfl rfl rfl s243v ?_
          refine ir_l (pc' := 32) rfl rfl rfl rfl rfl rfl ?_
          refine ir_x (pc' := 33) rfl rfl rfl (fun _ => rfl) ?_
          refine ir_via (pc' := 34) rfl rfl vg_598 rfl (Nat.le_of_ble_eq_true rfl) s243v rfl h246 (fun r247 => ?_)
          refine ir_k (pc' := 35) (v := (0, 1)) rfl rfl rfl (fun _ => rfl) ?_
          refine ir_sub (pc' := 36) rfl rfl h248.1 h248.2 ?_
          refine ir_vis (pc' := 37) rfl rfl vg_598 rfl (Nat.le_of_ble_eq_true rfl) s243v rfl h249 h248 (fun s250 s250e s250v => ?_)
          have hW := hW s250 s250e
          refine ir_goto (pc' := 0) rfl rfl ?_
          refine ir_w [(0, (2, ((582 : Nat) : Int))), (1, (0, l1)), (2, (0, l2))] ⟨rfl, rfl, rfl, trivial⟩ ?_
          exact ih0 s250 s250v hW.1 (Nat.lt_of_lt_of_le hW.2 (Nat.le_of_lt_succ hr0))
  unfold W_clean at hW
  refine ir_w [(0, (2, ((582 : Nat) : Int))), (1, (0, l1)), (2, (0, l2))] ⟨rfl, rfl, rfl, trivial⟩ ?_
  obtain ⟨I9, r9, hI9, hB9⟩ := hW
  exact J0 l1 l1r l2 l2r I9 r9 hB9 _ s hv hI9 (Nat.lt_succ_self _)
def W_newPolynomial (l1 : Int) (s : im_S) (Q : Int → im_S → Prop) : Prop := ((iR ((wgf s 28) + 1)) ∧ (∀ s4, s4 = wpf s 28 ((wgf s 28) + 1) → ((0 ≤ (wgf s 28) ∧ (wgf s 28) < 1200) ∧ (∀ s6, s6 = wpa s4 598 (wgf s 28) l1 → (Q (wgf s 28) s6)))))
set_option maxRecDepth 16384 in
theorem w_newPolynomial (L : Nat) (ys : Nat → Int32) (d : Nat) (s : im_S) (hv : vI s) (l1 : Int) (l1r : iR l1) (Q : Int → im_S → Prop) (hW : W_newPolynomial l1 s Q) : icI gG rm_P L ys 0 (d + 1) 72 [(2, ((582 : Nat) : Int)), (0, l1)] s (fun z9 s9 => vI s9 ∧ iR z9 ∧ Q z9 s9) := by
  refine ic_startM (M := rm_p_X10_newPolynomial) om_X10_newPolynomial (Nat.le_of_ble_eq_true rfl) ?_
  refine ir_w [(0, (2, ((582 : Nat) : Int))), (1, (0, l1))] ⟨rfl, rfl, trivial⟩ ?_
  unfold W_newPolynomial at hW
  obtain ⟨h3, hW⟩ := hW
  refine ir_l (pc' := 1) rfl rfl rfl rfl rfl rfl ?_
  refine ir_vgi (pc' := 4) rfl rfl rfl rfl rfl hv (fun r1 => ?_)
  refine ir_s (pc' := 5) rfl rfl rfl rfl rfl rfl ?_
  refine ir_l (pc' := 6) rfl rfl rfl rfl rfl rfl ?_
  refine ir_x (pc' := 7) rfl rfl rfl (fun _ => rfl) ?_
  refine ir_vgi (pc' := 10) rfl rfl rfl rfl rfl hv (fun r2 => ?_)
  refine ir_k (pc' := 11) (v := (0, 1)) rfl rfl rfl (fun _ => rfl) ?_
  refine ir_add (pc' := 12) rfl rfl h3.1 h3.2 ?_
  refine ir_vpi (pc' := 15) rfl rfl rfl rfl rfl rfl rfl hv h3 (fun s4 s4e s4v => ?_)
  have hW := hW s4 s4e
  obtain ⟨h5, hW⟩ := hW
  refine ir_l (pc' := 16) rfl rfl rfl rfl rfl rfl ?_
  refine ir_vgr (pc' := 19) (c := 598) rfl rfl rfl rfl rfl s4v ?_
  refine ir_l (pc' := 20) rfl rfl rfl rfl rfl rfl ?_
  refine ir_l (pc' := 21) rfl rfl rfl rfl rfl rfl ?_
  refine ir_vis (pc' := 22) rfl rfl vg_598 rfl (Nat.le_of_ble_eq_true rfl) s4v rfl h5 l1r (fun s6 s6e s6v => ?_)
  have hW := hW s6 s6e
  refine ir_l (pc' := 23) rfl rfl rfl rfl rfl rfl ?_
  exact ir_iret rfl rfl ⟨_, rfl, s6v, r1, hW⟩
def W_comeBack_80 (K26 : Int × im_S → Prop) (K80 : Int × im_S → Prop) (l1 : Int) (l2 : Int) (l3 : Int) (l4 : Int) (l5 : Int) (s : im_S) (Q : Int → im_S → Prop) : Prop := ((l4 < l5 → ((iR (l3 + l4)) ∧ (iR ((l3 + l4) + 1)) ∧ (∀ s4, s4 = wpf s 24 ((l3 + l4) + 1) → (W_set l1 l2 l3 s4 (fun s5 => ((iR (l2 + 1)) ∧ (K26 ((l2 + 1), s5)))))))) ∧ (¬ (l4 < l5) → ((0 ≤ (wgf s 33) ∧ (wgf s 33) < 20000) ∧ (0 ≤ (l3 + l5) ∧ (l3 + l5) < 700000) ∧ (∀ s13, s13 = wpa s 597 (l3 + l5) (wga s 601 (wgf s 33)) → ((iR ((wgf s13 33) + 1)) ∧ (∀ s16, s16 = wpf s13 33 ((wgf s13 33) + 1) → ((iR (l5 + 1)) ∧ (K80 ((l5 + 1), s16)))))))))
def W_comeBack_26 (K26 : Int × im_S → Prop) (l1 : Int) (l2 : Int) (s : im_S) (Q : Int → im_S → Prop) : Prop := ((0 ≤ l1 ∧ l1 < 1200) ∧ (((wga s 598 l1) < l2 → (Q l1 s)) ∧ (¬ ((wga s 598 l1) < l2) → ((0 ≤ (wgf s 33) ∧ (wgf s 33) < 20000) ∧ (¬ (0 ≤ (wga s 601 (wgf s 33))) → iR (-(wga s 601 (wgf s 33)))) ∧ (∀ v225 : Int, v225 = (if 0 ≤ (wga s 601 (wgf s 33)) then (wga s 601 (wgf s 33)) else (-(wga s 601 (wgf s 33)))) → (wloop (fun (K : Int × im_S → Prop) (a : Int × im_S) => W_comeBack_80 K26 K l1 l2 (wgf s 24) v225 a.1 a.2 Q) (0, s)))))))
def W_comeBack (s : im_S) (Q : Int → im_S → Prop) : Prop := ((0 ≤ (wgf s 33) ∧ (wgf s 33) < 20000) ∧ (W_newPolynomial (wga s 601 (wgf s 33)) s (fun z231 s230 => ((iR ((wgf s230 33) + 1)) ∧ (∀ s234, s234 = wpf s230 33 ((wgf s230 33) + 1) → (wloop (fun (K : Int × im_S → Prop) (a : Int × im_S) => W_comeBack_26 K z231 a.1 a.2 Q) (0, s234)))))))
set_option maxRecDepth 16384 in
theorem w_comeBack (L : Nat) (ys : Nat → Int32) (d : Nat) (s : im_S) (hv : vI s) (Q : Int → im_S → Prop) (hW : W_comeBack s Q) : icI gG rm_P L ys 0 (d + 2) 20 [(2, ((582 : Nat) : Int))] s (fun z9 s9 => vI s9 ∧ iR z9 ∧ Q z9 s9) := by
  refine ic_startM (M := rm_p_X10_comeBack) om_X10_comeBack (Nat.le_of_ble_eq_true rfl) ?_
  refine ir_w [(0, (2, ((582 : Nat) : Int)))] ⟨rfl, trivial⟩ ?_
  have J26 : ∀ (l1 : Int) (l1r : iR l1) (I26 : Int × im_S → Prop) (r26 : Int × im_S → Nat) (hB26 : ∀ a : Int × im_S, I26 a → W_comeBack_26 (fun b => I26 b ∧ r26 b < r26 a) l1 a.1 a.2 Q), ∀ n26 : Nat, ∀ (l2 : Int) (l2r : iR l2) (s : im_S) (hv : vI s), I26 (l2, s) → r26 (l2, s) < n26 → ir gG rm_P L ys (d + 1) rm_p_X10_comeBack (26, [(0, (2, ((582 : Nat) : Int))), (1, (0, l1)), (2, (0, l2))], [], s) (fun r : im_Re => ∃ z, r.1 = some (0, z) ∧ (vI r.2 ∧ iR z ∧ Q z r.2)) := by
    intro l1 l1r I26 r26 hB26 n26
    induction n26 with
    | zero => intro l2 l2r s hv hI hr; exact absurd hr (Nat.not_lt_zero _)
    | succ n26 ih26 =>
      intro l2 l2r s hv hI hr26
      obtain ⟨t26, ht26⟩ : ∃ t26 : Int × im_S, t26 = (l2, s) := ⟨_, rfl⟩
      rw [← ht26] at hr26
      have hW : W_comeBack_26 (fun b => I26 b ∧ r26 b < r26 t26) l1 l2 s Q := by have z := hB26 (l2, s) hI; rw [ht26]; exact z
      have J80 : ∀ (l2 : Int) (l2r : iR l2) (l3 : Int) (l3r : iR l3) (l4 : Int) (l4r : iR l4) (I80 : Int × im_S → Prop) (r80 : Int × im_S → Nat) (hB80 : ∀ a : Int × im_S, I80 a → W_comeBack_80 (fun b => I26 b ∧ r26 b < r26 t26) (fun b => I80 b ∧ r80 b < r80 a) l1 l2 l3 l4 a.1 a.2 Q), ∀ n80 : Nat, ∀ (l5 : Int) (l5r : iR l5) (s : im_S) (hv : vI s), I80 (l5, s) → r80 (l5, s) < n80 → ir gG rm_P L ys (d + 1) rm_p_X10_comeBack (80, [(0, (2, ((582 : Nat) : Int))), (1, (0, l1)), (2, (0, l2)), (3, (0, l3)), (4, (0, l4)), (5, (0, l5))], [], s) (fun r : im_Re => ∃ z, r.1 = some (0, z) ∧ (vI r.2 ∧ iR z ∧ Q z r.2)) := by
        intro l2 l2r l3 l3r l4 l4r I80 r80 hB80 n80
        induction n80 with
        | zero => intro l5 l5r s hv hI hr; exact absurd hr (Nat.not_lt_zero _)
        | succ n80 ih80 =>
          intro l5 l5r s hv hI hr80
          obtain ⟨t80, ht80⟩ : ∃ t80 : Int × im_S, t80 = (l5, s) := ⟨_, rfl⟩
          rw [← ht80] at hr80
          have hW : W_comeBack_80 (fun b => I26 b ∧ r26 b < r26 t26) (fun b => I80 b ∧ r80 b < r80 t80) l1 l2 l3 l4 l5 s Q := by have z := hB80 (l5, s) hI; rw [ht80]; exact z
          unfold W_comeBack_80 at hW
          refine ir_l (pc' := 82) rfl rfl rfl rfl rfl rfl ?_
          refine ir_l (pc' := 84) rfl rfl rfl rfl rfl rfl ?_
          refine ir_c_gt (pt := 121) (pc' := 87) rfl rfl rfl (fun c1 => ?_) (fun c1 => ?_)
          · have hW := hW.1 c1
            obtain ⟨h2, h3, hW⟩ := hW
            refine ir_l (pc' := 122) rfl rfl rfl rfl rfl rfl ?_
            refine ir_l (pc' := 123) rfl rfl rfl rfl rfl rfl ?_
            refine ir_l (pc' := 125) rfl rfl rfl rfl rfl rfl ?_
            refine ir_add (pc' := 126) rfl rfl h2.1 h2.2 ?_
            refine ir_k (pc' := 127) (v := (0, 1)) rfl rfl rfl (fun _ => rfl) ?_
            refine ir_add (pc' := 128) rfl rfl h3.1 h3.2 ?_
            refine ir_vpi (pc' := 131) rfl rfl rfl rfl rfl rfl rfl hv h3 (fun s4 s4e s4v => ?_)
            have hW := hW s4 s4e
            refine ir_l (pc' := 132) rfl rfl rfl rfl rfl rfl ?_
            refine ir_l (pc' := 133) rfl rfl rfl rfl rfl rfl ?_
            refine ir_l (pc' := 134) rfl rfl rfl rfl rfl rfl ?_
            refine ir_l (pc' := 135) rfl rfl rfl rfl rfl rfl ?_
            refine ir_cVV (pc' := 138) rfl rfl rfl rfl rfl (Nat.le_of_ble_eq_true rfl) oo_X10_set vg_582 (w_set L ys d s4 s4v l1 l1r l2 l2r l3 l3r _ hW) (fun s5 hr => ?_)
            obtain ⟨s5v, hW⟩ := hr
            obtain ⟨h7, hW⟩ := hW
            refine ir_inc (pc' := 141) rfl rfl rfl rfl rfl h7.1 h7.2 ?_
            refine ir_goto (pc' := 26) rfl rfl ?_
            refine ir_w [(0, (2, ((582 : Nat) : Int))), (1, (0, l1)), (2, (0, (l2 + 1)))] ⟨rfl, rfl, rfl, trivial⟩ ?_
            exact ih26 (l2 + 1) h7 s5 s5v hW.1 (Nat.lt_of_lt_of_le hW.2 (Nat.le_of_lt_succ hr26))
          · have hW := hW.2 c1
            obtain ⟨h10, h12, hW⟩ := hW
            have h8 : iR (l3 + l5) := ⟨by omega, by omega⟩
            refine ir_l (pc' := 88) rfl rfl rfl rfl rfl rfl ?_
            refine ir_vgr (pc' := 91) (c := 597) rfl rfl rfl rfl rfl hv ?_
            refine ir_l (pc' := 92) rfl rfl rfl rfl rfl rfl ?_
            refine ir_l (pc' := 94) rfl rfl rfl rfl rfl rfl ?_
            refine ir_add (pc' := 95) rfl rfl h8.1 h8.2 ?_
            refine ir_l (pc' := 96) rfl rfl rfl rfl rfl rfl ?_
            refine ir_vgr (pc' := 99) (c := 601) rfl rfl rfl rfl rfl hv ?_
            refine ir_l (pc' := 100) rfl rfl rfl rfl rfl rfl ?_
            refine ir_vgi (pc' := 103) rfl rfl rfl rfl rfl hv (fun r9 => ?_)
            refine ir_via (pc' := 104) rfl rfl vg_601 rfl (Nat.le_of_ble_eq_true rfl) hv rfl h10 (fun r11 => ?_)
            refine ir_vis (pc' := 105) rfl rfl vg_597 rfl (Nat.le_of_ble_eq_true rfl) hv rfl h12 r11 (fun s13 s13e s13v => ?_)
            have hW := hW s13 s13e
            obtain ⟨h15, hW⟩ := hW
            refine ir_l (pc' := 106) rfl rfl rfl rfl rfl rfl ?_
            refine ir_x (pc' := 107) rfl rfl rfl (fun _ => rfl) ?_
            refine ir_vgi (pc' := 110) rfl rfl rfl rfl rfl s13v (fun r14 => ?_)
            refine ir_k (pc' := 111) (v := (0, 1)) rfl rfl rfl (fun _ => rfl) ?_
            refine ir_add (pc' := 112) rfl rfl h15.1 h15.2 ?_
            refine ir_vpi (pc' := 115) rfl rfl rfl rfl rfl rfl rfl s13v h15 (fun s16 s16e s16v => ?_)
            have hW := hW s16 s16e
            obtain ⟨h17, hW⟩ := hW
            refine ir_inc (pc' := 118) rfl rfl rfl rfl rfl h17.1 h17.2 ?_
            refine ir_goto (pc' := 80) rfl rfl ?_
            refine ir_w [(0, (2, ((582 : Nat) : Int))), (1, (0, l1)), (2, (0, l2)), (3, (0, l3)), (4, (0, l4)), (5, (0, (l5 + 1)))] ⟨rfl, rfl, rfl, rfl, rfl, rfl, trivial⟩ ?_
            exact ih80 (l5 + 1) h17 s16 s16v hW.1 (Nat.lt_of_lt_of_le hW.2 (Nat.le_of_lt_succ hr80))
      unfold W_comeBack_26 at hW
      obtain ⟨h18, hW⟩ := hW
      refine ir_l (pc' := 27) rfl rfl rfl rfl rfl rfl ?_
      refine ir_l (pc' := 28) rfl rfl rfl rfl rfl rfl ?_
      refine ir_vgr (pc' := 31) (c := 598) rfl rfl rfl rfl rfl hv ?_
      refine ir_l (pc' := 32) rfl rfl rfl rfl rfl rfl ?_
      refine ir_via (pc' := 33) rfl rfl vg_598 rfl (Nat.le_of_ble_eq_true rfl) hv rfl h18 (fun r19 => ?_)
      refine ir_c_gt (pt := 144) (pc' := 36) rfl rfl rfl (fun c20 => ?_) (fun c20 => ?_)
      · have hW := hW.1 c20
        refine ir_l (pc' := 145) rfl rfl rfl rfl rfl rfl ?_
        exact ir_iret rfl rfl ⟨_, rfl, hv, l1r, hW⟩
      · have hW := hW.2 c20
        obtain ⟨h23, h30, hW⟩ := hW
        refine ir_l (pc' := 37) rfl rfl rfl rfl rfl rfl ?_
        refine ir_vgi (pc' := 40) rfl rfl rfl rfl rfl hv (fun r21 => ?_)
        refine ir_s (pc' := 41) rfl rfl rfl rfl rfl rfl ?_
        refine ir_l (pc' := 42) rfl rfl rfl rfl rfl rfl ?_
        refine ir_vgr (pc' := 45) (c := 601) rfl rfl rfl rfl rfl hv ?_
        refine ir_l (pc' := 46) rfl rfl rfl rfl rfl rfl ?_
        refine ir_vgi (pc' := 49) rfl rfl rfl rfl rfl hv (fun r22 => ?_)
        refine ir_via (pc' := 50) rfl rfl vg_601 rfl (Nat.le_of_ble_eq_true rfl) hv rfl h23 (fun r24 => ?_)
        have J226 : ∀ v225 : Int, iR v225 → ((wloop (fun (K : Int × im_S → Prop) (a : Int × im_S) => W_comeBack_80 (fun b => I26 b ∧ r26 b < r26 t26) K l1 l2 (wgf s 24) v225 a.1 a.2 Q) (0, s))) → ir gG rm_P L ys (d + 1) rm_p_X10_comeBack (75, [(0, (2, ((582 : Nat) : Int))), (1, (0, l1)), (2, (0, l2)), (3, (0, (wgf s 24)))], [(0, v225)], s) (fun r : im_Re => ∃ z, r.1 = some (0, z) ∧ (vI r.2 ∧ iR z ∧ Q z r.2)) := by
          intro v225 v225r hW
          refine ir_s (pc' := 77) rfl rfl rfl rfl rfl rfl ?_
          refine ir_k (pc' := 78) (v := (0, 0)) rfl rfl rfl (fun _ => rfl) ?_
          refine ir_s (pc' := 80) rfl rfl rfl rfl rfl rfl ?_
          refine ir_w [(0, (2, ((582 : Nat) : Int))), (1, (0, l1)), (2, (0, l2)), (3, (0, (wgf s 24))), (4, (0, v225)), (5, (0, 0))] ⟨rfl, rfl, rfl, rfl, rfl, rfl, trivial⟩ ?_
          obtain ⟨I9, r9, hI9, hB9⟩ := hW
          exact J80 l2 l2r (wgf s 24) r21 v225 v225r I9 r9 hB9 _ 0 (zR_i (Or.inl rfl)) s hv hI9 (Nat.lt_succ_self _)
        refine ir_z_ge (pt := 66) (pc' := 53) rfl rfl rfl (fun c25 => ?_) (fun c25 => ?_)
        · refine ir_l (pc' := 67) rfl rfl rfl rfl rfl rfl ?_
          refine ir_vgr (pc' := 70) (c := 601) rfl rfl rfl rfl rfl hv ?_
          refine ir_l (pc' := 71) rfl rfl rfl rfl rfl rfl ?_
          refine ir_vgi (pc' := 74) rfl rfl rfl rfl rfl hv (fun r26 => ?_)
          refine ir_via (pc' := 75) rfl rfl vg_601 rfl (Nat.le_of_ble_eq_true rfl) hv rfl h23 (fun r27 => ?_)
          refine ir_w [(0, (2, ((582 : Nat) : Int))), (1, (0, l1)), (2, (0, l2)), (3, (0, (wgf s 24)))] ⟨rfl, rfl, rfl, rfl, trivial⟩ ?_
          exact J226 (wga s 601 (wgf s 33)) r27 (hW _ (by rw [if_pos c25]))
        · refine ir_l (pc' := 54) rfl rfl rfl rfl rfl rfl ?_
          refine ir_vgr (pc' := 57) (c := 601) rfl rfl rfl rfl rfl hv ?_
          refine ir_l (pc' := 58) rfl rfl rfl rfl rfl rfl ?_
          refine ir_vgi (pc' := 61) rfl rfl rfl rfl rfl hv (fun r28 => ?_)
          refine ir_via (pc' := 62) rfl rfl vg_601 rfl (Nat.le_of_ble_eq_true rfl) hv rfl h23 (fun r29 => ?_)
          refine ir_ineg (pc' := 63) rfl rfl (w_ng0 (h30 c25)) r29.2 ?_
          refine ir_goto (pc' := 75) rfl rfl ?_
          refine ir_w [(0, (2, ((582 : Nat) : Int))), (1, (0, l1)), (2, (0, l2)), (3, (0, (wgf s 24)))] ⟨rfl, rfl, rfl, rfl, trivial⟩ ?_
          exact J226 (-(wga s 601 (wgf s 33))) (h30 c25) (hW _ (by rw [if_neg (fun z => c25 z)]))
  unfold W_comeBack at hW
  obtain ⟨h228, hW⟩ := hW
  refine ir_l (pc' := 1) rfl rfl rfl rfl rfl rfl ?_
  refine ir_l (pc' := 2) rfl rfl rfl rfl rfl rfl ?_
  refine ir_vgr (pc' := 5) (c := 601) rfl rfl rfl rfl rfl hv ?_
  refine ir_l (pc' := 6) rfl rfl rfl rfl rfl rfl ?_
  refine ir_vgi (pc' := 9) rfl rfl rfl rfl rfl hv (fun r227 => ?_)
  refine ir_via (pc' := 10) rfl rfl vg_601 rfl (Nat.le_of_ble_eq_true rfl) hv rfl h228 (fun r229 => ?_)
  refine ir_cVI (pc' := 13) rfl rfl rfl rfl rfl (Nat.le_of_ble_eq_true rfl) oo_X10_newPolynomial vg_582 (w_newPolynomial L ys d s hv (wga s 601 (wgf s 33)) r229 _ hW) (fun z231 s230 hr => ?_)
  obtain ⟨s230v, z231r, hW⟩ := hr
  obtain ⟨h233, hW⟩ := hW
  refine ir_s (pc' := 14) rfl rfl rfl rfl rfl rfl ?_
  refine ir_l (pc' := 15) rfl rfl rfl rfl rfl rfl ?_
  refine ir_x (pc' := 16) rfl rfl rfl (fun _ => rfl) ?_
  refine ir_vgi (pc' := 19) rfl rfl rfl rfl rfl s230v (fun r232 => ?_)
  refine ir_k (pc' := 20) (v := (0, 1)) rfl rfl rfl (fun _ => rfl) ?_
  refine ir_add (pc' := 21) rfl rfl h233.1 h233.2 ?_
  refine ir_vpi (pc' := 24) rfl rfl rfl rfl rfl rfl rfl s230v h233 (fun s234 s234e s234v => ?_)
  have hW := hW s234 s234e
  refine ir_k (pc' := 25) (v := (0, 0)) rfl rfl rfl (fun _ => rfl) ?_
  refine ir_s (pc' := 26) rfl rfl rfl rfl rfl rfl ?_
  refine ir_w [(0, (2, ((582 : Nat) : Int))), (1, (0, z231)), (2, (0, 0))] ⟨rfl, rfl, rfl, trivial⟩ ?_
  obtain ⟨I9, r9, hI9, hB9⟩ := hW
  exact J26 z231 z231r I9 r9 hB9 _ 0 (zR_i (Or.inl rfl)) s234 s234v hI9 (Nat.lt_succ_self _)
