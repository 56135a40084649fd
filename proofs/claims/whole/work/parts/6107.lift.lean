/-! THE REFERENCE LIFTED, by program -/
def W_derivative_15 (K15 : Int × im_S → Prop) (l1 : Int) (l2 : Int) (l3 : Int) (s : im_S) (Q : Int → im_S → Prop) : Prop := ((0 ≤ l1 ∧ l1 < 1200) ∧ (((wga s 598 l1) < l3 → (W_clean l2 0 s (fun s4 => (Q l2 s4)))) ∧ (¬ ((wga s 598 l1) < l3) → ((iR (l3 - 1)) ∧ (W_at l1 l3 s (fun z8 s7 => (W_whole l3 s7 (fun z10 s9 => (W_by z8 z10 s9 (fun z12 s11 => (W_set l2 (l3 - 1) z12 s11 (fun s13 => ((iR (l3 + 1)) ∧ (K15 ((l3 + 1), s13)))))))))))))))
def W_derivative (l1 : Int) (s : im_S) (Q : Int → im_S → Prop) : Prop := ((0 ≤ l1 ∧ l1 < 1200) ∧ (iR ((wga s 598 l1) - 1)) ∧ (W_newPolynomial ((wga s 598 l1) - 1) s (fun z20 s19 => (wloop (fun (K : Int × im_S → Prop) (a : Int × im_S) => W_derivative_15 K l1 z20 a.1 a.2 Q) (1, s19)))))
set_option maxRecDepth 16384 in
theorem w_derivative (L : Nat) (ys : Nat → Int32) (d : Nat) (s : im_S) (hv : vI s) (l1 : Int) (l1r : iR l1) (Q : Int → im_S → Prop) (hW : W_derivative l1 s Q) : icI gG rm_P L ys 0 (d + 8) 27 [(2, ((582 : Nat) : Int)), (0, l1)] s (fun z9 s9 => vI s9 ∧ iR z9 ∧ Q z9 s9) := by
  refine ic_startM (M := rm_p_X10_derivative) om_X10_derivative (Nat.le_of_ble_eq_true rfl) ?_
  refine ir_w [(0, (2, ((582 : Nat) : Int))), (1, (0, l1))] ⟨rfl, rfl, trivial⟩ ?_
  have J15 : ∀ (l1 : Int) (l1r : iR l1) (l2 : Int) (l2r : iR l2) (I15 : Int × im_S → Prop) (r15 : Int × im_S → Nat) (hB15 : ∀ a : Int × im_S, I15 a → W_derivative_15 (fun b => I15 b ∧ r15 b < r15 a) l1 l2 a.1 a.2 Q), ∀ n15 : Nat, ∀ (l3 : Int) (l3r : iR l3) (s : im_S) (hv : vI s), I15 (l3, s) → r15 (l3, s) < n15 → ir gG rm_P L ys (d + 7) rm_p_X10_derivative (15, [(0, (2, ((582 : Nat) : Int))), (1, (0, l1)), (2, (0, l2)), (3, (0, l3))], [], s) (fun r : im_Re => ∃ z, r.1 = some (0, z) ∧ (vI r.2 ∧ iR z ∧ Q z r.2)) := by
    intro l1 l1r l2 l2r I15 r15 hB15 n15
    induction n15 with
    | zero => intro l3 l3r s hv hI hr; exact absurd hr (Nat.not_lt_zero _)
    | succ n15 ih15 =>
      intro l3 l3r s hv hI hr15
      obtain ⟨t15, ht15⟩ : ∃ t15 : Int × im_S, t15 = (l3, s) := ⟨_, rfl⟩
      rw [← ht15] at hr15
      have hW : W_derivative_15 (fun b => I15 b ∧ r15 b < r15 t15) l1 l2 l3 s Q := by have z := hB15 (l3, s) hI; rw [ht15]; exact z
      unfold W_derivative_15 at hW
      obtain ⟨h1, hW⟩ := hW
      refine ir_l (pc' := 16) rfl rfl rfl rfl rfl rfl ?_
      refine ir_l (pc' := 17) rfl rfl rfl rfl rfl rfl ?_
      refine ir_vgr (pc' := 20) (c := 598) rfl rfl rfl rfl rfl hv ?_
      refine ir_l (pc' := 21) rfl rfl rfl rfl rfl rfl ?_
      refine ir_via (pc' := 22) rfl rfl vg_598 rfl (Nat.le_of_ble_eq_true rfl) hv rfl h1 (fun r2 => ?_)
      refine ir_c_gt (pt := 55) (pc' := 25) rfl rfl rfl (fun c3 => ?_) (fun c3 => ?_)
      · have hW := hW.1 c3
        refine ir_l (pc' := 56) rfl rfl rfl rfl rfl rfl ?_
        refine ir_l (pc' := 57) rfl rfl rfl rfl rfl rfl ?_
        refine ir_k (pc' := 58) (v := (0, 0)) rfl rfl rfl (fun _ => rfl) ?_
        refine ir_cVV (pc' := 61) rfl rfl rfl rfl rfl (Nat.le_of_ble_eq_true rfl) oo_X10_clean vg_582 (w_clean L ys d s hv l2 l2r 0 (Or.inl rfl) _ hW) (fun s4 hr => ?_)
        obtain ⟨s4v, hW⟩ := hr
        refine ir_l (pc' := 62) rfl rfl rfl rfl rfl rfl ?_
        exact ir_iret rfl rfl ⟨_, rfl, s4v, l2r, hW⟩
      · have hW := hW.2 c3
        obtain ⟨h6, hW⟩ := hW
        refine ir_l (pc' := 26) rfl rfl rfl rfl rfl rfl ?_
        refine ir_l (pc' := 27) rfl rfl rfl rfl rfl rfl ?_
        refine ir_l (pc' := 28) rfl rfl rfl rfl rfl rfl ?_
        refine ir_k (pc' := 29) (v := (0, 1)) rfl rfl rfl (fun _ => rfl) ?_
        refine ir_sub (pc' := 30) rfl rfl h6.1 h6.2 ?_
        refine ir_l (pc' := 31) rfl rfl rfl rfl rfl rfl ?_
        refine ir_l (pc' := 32) rfl rfl rfl rfl rfl rfl ?_
        refine ir_l (pc' := 33) rfl rfl rfl rfl rfl rfl ?_
        refine ir_l (pc' := 34) rfl rfl rfl rfl rfl rfl ?_
        refine ir_cVI (pc' := 37) rfl rfl rfl rfl rfl (Nat.le_of_ble_eq_true rfl) oo_X10_at vg_582 (w_at L ys (d + 6) s hv l1 l1r l3 l3r _ hW) (fun z8 s7 hr => ?_)
        obtain ⟨s7v, z8r, hW⟩ := hr
        refine ir_l (pc' := 38) rfl rfl rfl rfl rfl rfl ?_
        refine ir_l (pc' := 39) rfl rfl rfl rfl rfl rfl ?_
        refine ir_i2l (pc' := 40) rfl rfl l3r.1 l3r.2 ?_
        refine ir_cVI (pc' := 43) rfl rfl rfl rfl rfl (Nat.le_of_ble_eq_true rfl) oo_X10_whole vg_582 (w_whole L ys (d + 6) s7 s7v l3 (iR_l l3r) _ hW) (fun z10 s9 hr => ?_)
        obtain ⟨s9v, z10r, hW⟩ := hr
        refine ir_cVI (pc' := 46) rfl rfl rfl rfl rfl (Nat.le_of_ble_eq_true rfl) oo_X10_by vg_582 (w_by L ys (d + 5) s9 s9v z8 z8r z10 z10r _ hW) (fun z12 s11 hr => ?_)
        obtain ⟨s11v, z12r, hW⟩ := hr
        refine ir_cVV (pc' := 49) rfl rfl rfl rfl rfl (Nat.le_of_ble_eq_true rfl) oo_X10_set vg_582 (w_set L ys (d + 6) s11 s11v l2 l2r (l3 - 1) h6 z12 z12r _ hW) (fun s13 hr => ?_)
        obtain ⟨s13v, hW⟩ := hr
        obtain ⟨h15, hW⟩ := hW
        refine ir_inc (pc' := 52) rfl rfl rfl rfl rfl h15.1 h15.2 ?_
        refine ir_goto (pc' := 15) rfl rfl ?_
        refine ir_w [(0, (2, ((582 : Nat) : Int))), (1, (0, l1)), (2, (0, l2)), (3, (0, (l3 + 1)))] ⟨rfl, rfl, rfl, rfl, trivial⟩ ?_
        exact ih15 (l3 + 1) h15 s13 s13v hW.1 (Nat.lt_of_lt_of_le hW.2 (Nat.le_of_lt_succ hr15))
  unfold W_derivative at hW
  obtain ⟨h16, h18, hW⟩ := hW
  refine ir_l (pc' := 1) rfl rfl rfl rfl rfl rfl ?_
  refine ir_l (pc' := 2) rfl rfl rfl rfl rfl rfl ?_
  refine ir_vgr (pc' := 5) (c := 598) rfl rfl rfl rfl rfl hv ?_
  refine ir_l (pc' := 6) rfl rfl rfl rfl rfl rfl ?_
  refine ir_via (pc' := 7) rfl rfl vg_598 rfl (Nat.le_of_ble_eq_true rfl) hv rfl h16 (fun r17 => ?_)
  refine ir_k (pc' := 8) (v := (0, 1)) rfl rfl rfl (fun _ => rfl) ?_
  refine ir_sub (pc' := 9) rfl rfl h18.1 h18.2 ?_
  refine ir_cVI (pc' := 12) rfl rfl rfl rfl rfl (Nat.le_of_ble_eq_true rfl) oo_X10_newPolynomial vg_582 (w_newPolynomial L ys (d + 6) s hv ((wga s 598 l1) - 1) h18 _ hW) (fun z20 s19 hr => ?_)
  obtain ⟨s19v, z20r, hW⟩ := hr
  refine ir_s (pc' := 13) rfl rfl rfl rfl rfl rfl ?_
  refine ir_k (pc' := 14) (v := (0, 1)) rfl rfl rfl (fun _ => rfl) ?_
  refine ir_s (pc' := 15) rfl rfl rfl rfl rfl rfl ?_
  refine ir_w [(0, (2, ((582 : Nat) : Int))), (1, (0, l1)), (2, (0, z20)), (3, (0, 1))] ⟨rfl, rfl, rfl, rfl, trivial⟩ ?_
  obtain ⟨I9, r9, hI9, hB9⟩ := hW
  exact J15 l1 l1r z20 z20r I9 r9 hB9 _ 1 (zR_i (Or.inr rfl)) s19 s19v hI9 (Nat.lt_succ_self _)
def W_good (s : im_S) (Q : Int → im_S → Prop) : Prop := (∀ v202 : Int, v202 = (if ¬ ((wgf s 2) = 0) then 0 else 1) → (Q v202 s))
set_option maxRecDepth 16384 in
theorem w_good (L : Nat) (ys : Nat → Int32) (d : Nat) (s : im_S) (hv : vI s) (Q : Int → im_S → Prop) (hW : W_good s Q) : icI gG rm_P L ys 0 (d + 1) 45 [(2, ((582 : Nat) : Int))] s (fun z9 s9 => vI s9 ∧ zR z9 ∧ Q z9 s9) := by
  refine ic_startM (M := rm_p_X10_good) om_X10_good (Nat.le_of_ble_eq_true rfl) ?_
  refine ir_w [(0, (2, ((582 : Nat) : Int)))] ⟨rfl, trivial⟩ ?_
  unfold W_good at hW
  refine ir_l (pc' := 1) rfl rfl rfl rfl rfl rfl ?_
  refine ir_vgi (pc' := 4) rfl rfl rfl rfl rfl hv (fun r1 => ?_)
  have J203 : ∀ v202 : Int, zR v202 → ((Q v202 s)) → ir gG rm_P L ys d rm_p_X10_good (12, [], [(0, v202)], s) (fun r : im_Re => ∃ z, r.1 = some (0, z) ∧ (vI r.2 ∧ zR z ∧ Q z r.2)) := by
    intro v202 v202r hW
    exact ir_zret rfl rfl v202r ⟨_, rfl, hv, v202r, hW⟩
  refine ir_z_ne (pt := 11) (pc' := 7) rfl rfl rfl (fun c2 => ?_) (fun c2 => ?_)
  · refine ir_k (pc' := 12) (v := (0, 0)) rfl rfl rfl (fun _ => rfl) ?_
    refine ir_w [] trivial ?_
    exact J203 0 (Or.inl rfl) (hW _ (by rw [if_pos c2]))
  · refine ir_k (pc' := 8) (v := (0, 1)) rfl rfl rfl (fun _ => rfl) ?_
    refine ir_goto (pc' := 12) rfl rfl ?_
    refine ir_w [] trivial ?_
    exact J203 1 (Or.inr rfl) (hW _ (by rw [if_neg (by omega)]))
def W_isFine (l1 : Int) (s : im_S) (Q : Int → im_S → Prop) : Prop := (∀ v202 : Int, v202 = (if l1 < (-1000000000) then 0 else (if 1000000000 < l1 then 0 else 1)) → (Q v202 s))
set_option maxRecDepth 16384 in
theorem w_isFine (L : Nat) (ys : Nat → Int32) (d : Nat) (s : im_S) (hv : vI s) (l1 : Int) (l1r : lR l1) (Q : Int → im_S → Prop) (hW : W_isFine l1 s Q) : icI gG rm_P L ys 0 (d + 1) 53 [(2, ((582 : Nat) : Int)), (1, l1)] s (fun z9 s9 => vI s9 ∧ zR z9 ∧ Q z9 s9) := by
  refine ic_startM (M := rm_p_X10_isFine) om_X10_isFine (Nat.le_of_ble_eq_true rfl) ?_
  refine ir_w [(0, (2, ((582 : Nat) : Int))), (1, (1, l1))] ⟨rfl, rfl, trivial⟩ ?_
  unfold W_isFine at hW
  refine ir_l (pc' := 1) rfl rfl rfl rfl rfl rfl ?_
  refine ir_k (pc' := 4) (v := (1, (-1000000000))) rfl rfl rfl (fun _ => rfl) ?_
  refine ir_lcmp (pc' := 5) rfl rfl l1r.1 l1r.2 (⟨by decide, by decide⟩ : lR (-1000000000)).1 (⟨by decide, by decide⟩ : lR (-1000000000)).2 (fun z1 z1c => ?_)
  have J203 : ∀ v202 : Int, zR v202 → ((Q v202 s)) → ir gG rm_P L ys d rm_p_X10_isFine (21, [], [(0, v202)], s) (fun r : im_Re => ∃ z, r.1 = some (0, z) ∧ (vI r.2 ∧ zR z ∧ Q z r.2)) := by
    intro v202 v202r hW
    exact ir_zret rfl rfl v202r ⟨_, rfl, hv, v202r, hW⟩
  refine ir_z_lt (pt := 20) (pc' := 8) rfl rfl rfl (fun c2 => ?_) (fun c2 => ?_)
  · have c2 : l1 < (-1000000000) := by omega
    refine ir_k (pc' := 21) (v := (0, 0)) rfl rfl rfl (fun _ => rfl) ?_
    refine ir_w [] trivial ?_
    exact J203 0 (Or.inl rfl) (hW _ (by rw [if_pos c2]))
  · have c2 : ¬ (l1 < (-1000000000)) := by omega
    refine ir_l (pc' := 9) rfl rfl rfl rfl rfl rfl ?_
    refine ir_k (pc' := 12) (v := (1, 1000000000)) rfl rfl rfl (fun _ => rfl) ?_
    refine ir_lcmp (pc' := 13) rfl rfl l1r.1 l1r.2 (⟨by decide, by decide⟩ : lR 1000000000).1 (⟨by decide, by decide⟩ : lR 1000000000).2 (fun z3 z3c => ?_)
    refine ir_z_gt (pt := 20) (pc' := 16) rfl rfl rfl (fun c4 => ?_) (fun c4 => ?_)
    · have c4 : 1000000000 < l1 := by omega
      refine ir_k (pc' := 21) (v := (0, 0)) rfl rfl rfl (fun _ => rfl) ?_
      refine ir_w [] trivial ?_
      exact J203 0 (Or.inl rfl) (hW _ (by rw [if_neg (fun z => c2 z), if_pos c4]))
    · have c4 : ¬ (1000000000 < l1) := by omega
      refine ir_k (pc' := 17) (v := (0, 1)) rfl rfl rfl (fun _ => rfl) ?_
      refine ir_goto (pc' := 21) rfl rfl ?_
      refine ir_w [] trivial ?_
      exact J203 1 (Or.inr rfl) (hW _ (by rw [if_neg (fun z => c2 z), if_neg (fun z => c4 z)]))
def W_multiply_202 (s : im_S) (Q : im_S → Prop) : Prop := (Q s)
def W_multiply_176 (K144 : Int × im_S → Prop) (l1 : Int) (l2 : Int) (s : im_S) (Q : im_S → Prop) : Prop := ((iR (9 * (wgf s 21))) ∧ (0 ≤ l2 ∧ l2 < 9) ∧ (0 ≤ ((9 * (wgf s 21)) + l2) ∧ ((9 * (wgf s 21)) + l2) < 108) ∧ (∀ s7, s7 = wpa s 590 ((9 * (wgf s 21)) + l2) (wga s 592 l2) → ((iR (l2 + 1)) ∧ (K144 ((l2 + 1), s7)))))
def W_multiply_144 (K144 : Int × im_S → Prop) (l1 : Int) (l2 : Int) (s : im_S) (Q : im_S → Prop) : Prop := ((9 ≤ l2 → (W_multiply_202 s Q)) ∧ (¬ (9 ≤ l2) → (W_good s (fun z11 s10 => ((z11 = 0 → (W_multiply_202 s10 Q)) ∧ (¬ (z11 = 0) → ((0 ≤ l2 ∧ l2 < 9) ∧ (W_isFine (wga s10 592 l2) s10 (fun z16 s15 => ((¬ (z16 = 0) → (W_multiply_176 K144 l1 l2 s15 Q)) ∧ (z16 = 0 → (W_fail 3 l1 s15 (fun s18 => (W_multiply_176 K144 l1 l2 s18 Q))))))))))))))
def W_multiply_130 (K23 : Int × im_S → Prop) (K31 : Int × im_S → Prop) (l1 : Int) (l2 : Int) (l3 : Int) (s : im_S) (Q : im_S → Prop) : Prop := ((iR (l3 + 1)) ∧ (K31 ((l3 + 1), s)))
def W_multiply_100 (K23 : Int × im_S → Prop) (K31 : Int × im_S → Prop) (l1 : Int) (l2 : Int) (l3 : Int) (l4 : Int) (l6 : Int) (s : im_S) (Q : im_S → Prop) : Prop := ((l4 = 0 → (W_multiply_130 K23 K31 l1 l2 l3 s Q)) ∧ (¬ (l4 = 0) → ((l6 = 0 → (W_multiply_130 K23 K31 l1 l2 l3 s Q)) ∧ (¬ (l6 = 0) → ((0 ≤ (l2 + l3) ∧ (l2 + l3) < 9) ∧ (lR (l4 * l6)) ∧ (lR ((wga s 592 (l2 + l3)) + (l4 * l6))) ∧ (0 ≤ (l2 + l3) ∧ (l2 + l3) < 9) ∧ (∀ s31, s31 = wpa s 592 (l2 + l3) ((wga s 592 (l2 + l3)) + (l4 * l6)) → (W_multiply_130 K23 K31 l1 l2 l3 s31 Q)))))))
def W_multiply_31 (K23 : Int × im_S → Prop) (K31 : Int × im_S → Prop) (l1 : Int) (l2 : Int) (l3 : Int) (s : im_S) (Q : im_S → Prop) : Prop := ((9 ≤ l3 → ((iR (l2 + 1)) ∧ (K23 ((l2 + 1), s)))) ∧ (¬ (9 ≤ l3) → ((iR (9 * (wgf s 21))) ∧ (0 ≤ ((9 * (wgf s 21)) + l2) ∧ ((9 * (wgf s 21)) + l2) < 108) ∧ (0 ≤ ((9 * (wgf s 21)) + l3) ∧ ((9 * (wgf s 21)) + l3) < 108) ∧ (((wga s 590 ((9 * (wgf s 21)) + l2)) = 0 → (W_multiply_100 K23 K31 l1 l2 l3 (wga s 590 ((9 * (wgf s 21)) + l2)) (wga s 591 ((9 * (wgf s 21)) + l3)) s Q)) ∧ (¬ ((wga s 590 ((9 * (wgf s 21)) + l2)) = 0) → (((wga s 591 ((9 * (wgf s 21)) + l3)) = 0 → (W_multiply_100 K23 K31 l1 l2 l3 (wga s 590 ((9 * (wgf s 21)) + l2)) (wga s 591 ((9 * (wgf s 21)) + l3)) s Q)) ∧ (¬ ((wga s 591 ((9 * (wgf s 21)) + l3)) = 0) → ((iR (l2 + l3)) ∧ (((l2 + l3) < 9 → (W_multiply_100 K23 K31 l1 l2 l3 (wga s 590 ((9 * (wgf s 21)) + l2)) (wga s 591 ((9 * (wgf s 21)) + l3)) s Q)) ∧ (¬ ((l2 + l3) < 9) → (W_fail 3 l1 s (fun s49 => (W_multiply_130 K23 K31 l1 l2 l3 s49 Q)))))))))))))
def W_multiply_23 (K23 : Int × im_S → Prop) (l1 : Int) (l2 : Int) (s : im_S) (Q : im_S → Prop) : Prop := ((9 ≤ l2 → (wloop (fun (K : Int × im_S → Prop) (a : Int × im_S) => W_multiply_144 K l1 a.1 a.2 Q) (0, s))) ∧ (¬ (9 ≤ l2) → (wloop (fun (K : Int × im_S → Prop) (a : Int × im_S) => W_multiply_31 K23 K l1 l2 a.1 a.2 Q) (0, s))))
def W_multiply_2 (K2 : Int × im_S → Prop) (l1 : Int) (l2 : Int) (s : im_S) (Q : im_S → Prop) : Prop := ((9 ≤ l2 → (wloop (fun (K : Int × im_S → Prop) (a : Int × im_S) => W_multiply_23 K l1 a.1 a.2 Q) (0, s))) ∧ (¬ (9 ≤ l2) → ((0 ≤ l2 ∧ l2 < 9) ∧ (∀ s54, s54 = wpa s 592 l2 0 → ((iR (l2 + 1)) ∧ (K2 ((l2 + 1), s54)))))))
def W_multiply (l1 : Int) (s : im_S) (Q : im_S → Prop) : Prop := (wloop (fun (K : Int × im_S → Prop) (a : Int × im_S) => W_multiply_2 K l1 a.1 a.2 Q) (0, s))
set_option maxRecDepth 16384 in
theorem w_multiply (L : Nat) (ys : Nat → Int32) (d : Nat) (s : im_S) (hv : vI s) (l1 : Int) (l1r : iR l1) (Q : im_S → Prop) (hW : W_multiply l1 s Q) : icV gG rm_P L ys (d + 2) 71 [(2, ((582 : Nat) : Int)), (0, l1)] s (fun s9 => vI s9 ∧ Q s9) := by
  refine ic_startM (M := rm_p_X10_multiply) om_X10_multiply (Nat.le_of_ble_eq_true rfl) ?_
  refine ir_w [(0, (2, ((582 : Nat) : Int))), (1, (0, l1))] ⟨rfl, rfl, trivial⟩ ?_
  have J202 : ∀ (s : im_S) (hv : vI s), W_multiply_202 s Q → ir gG rm_P L ys (d + 1) rm_p_X10_multiply (202, [], [], s) (fun r : im_Re => r.1 = none ∧ (vI r.2 ∧ Q r.2)) := by
    intro s hv hW
    unfold W_multiply_202 at hW
    exact ir_vret rfl rfl ⟨rfl, hv, hW⟩
  have J144 : ∀ (l1 : Int) (l1r : iR l1) (I144 : Int × im_S → Prop) (r144 : Int × im_S → Nat) (hB144 : ∀ a : Int × im_S, I144 a → W_multiply_144 (fun b => I144 b ∧ r144 b < r144 a) l1 a.1 a.2 Q), ∀ n144 : Nat, ∀ (l2 : Int) (l2r : iR l2) (s : im_S) (hv : vI s), I144 (l2, s) → r144 (l2, s) < n144 → ir gG rm_P L ys (d + 1) rm_p_X10_multiply (144, [(0, (2, ((582 : Nat) : Int))), (1, (0, l1)), (2, (0, l2))], [], s) (fun r : im_Re => r.1 = none ∧ (vI r.2 ∧ Q r.2)) := by
    intro l1 l1r I144 r144 hB144 n144
    induction n144 with
    | zero => intro l2 l2r s hv hI hr; exact absurd hr (Nat.not_lt_zero _)
    | succ n144 ih144 =>
      intro l2 l2r s hv hI hr144
      obtain ⟨t144, ht144⟩ : ∃ t144 : Int × im_S, t144 = (l2, s) := ⟨_, rfl⟩
      rw [← ht144] at hr144
      have hW : W_multiply_144 (fun b => I144 b ∧ r144 b < r144 t144) l1 l2 s Q := by have z := hB144 (l2, s) hI; rw [ht144]; exact z
      have J176 : ∀ (l2 : Int) (l2r : iR l2) (s : im_S) (hv : vI s), W_multiply_176 (fun b => I144 b ∧ r144 b < r144 t144) l1 l2 s Q → ir gG rm_P L ys (d + 1) rm_p_X10_multiply (176, [(0, (2, ((582 : Nat) : Int))), (1, (0, l1)), (2, (0, l2))], [], s) (fun r : im_Re => r.1 = none ∧ (vI r.2 ∧ Q r.2)) := by
        intro l2 l2r s hv hW
        unfold W_multiply_176 at hW
        obtain ⟨h2, h4, h6, hW⟩ := hW
        have h3 : iR ((9 * (wgf s 21)) + l2) := ⟨by omega, by omega⟩
        refine ir_l (pc' := 177) rfl rfl rfl rfl rfl rfl ?_
        refine ir_vgr (pc' := 180) (c := 590) rfl rfl rfl rfl rfl hv ?_
        refine ir_k (pc' := 182) (v := (0, 9)) rfl rfl rfl (fun _ => rfl) ?_
        refine ir_l (pc' := 183) rfl rfl rfl rfl rfl rfl ?_
        refine ir_vgi (pc' := 186) rfl rfl rfl rfl rfl hv (fun r1 => ?_)
        refine ir_mul (pc' := 187) rfl rfl h2.1 h2.2 ?_
        refine ir_l (pc' := 188) rfl rfl rfl rfl rfl rfl ?_
        refine ir_add (pc' := 189) rfl rfl h3.1 h3.2 ?_
        refine ir_l (pc' := 190) rfl rfl rfl rfl rfl rfl ?_
        refine ir_vgr (pc' := 193) (c := 592) rfl rfl rfl rfl rfl hv ?_
        refine ir_l (pc' := 194) rfl rfl rfl rfl rfl rfl ?_
        refine ir_vla (pc' := 195) rfl rfl vg_592 rfl (Nat.le_of_ble_eq_true rfl) hv rfl h4 (fun r5 => ?_)
        refine ir_vls (pc' := 196) rfl rfl vg_590 rfl (Nat.le_of_ble_eq_true rfl) hv rfl h6 r5 (fun s7 s7e s7v => ?_)
        have hW := hW s7 s7e
        obtain ⟨h8, hW⟩ := hW
        refine ir_inc (pc' := 199) rfl rfl rfl rfl rfl h8.1 h8.2 ?_
        refine ir_goto (pc' := 144) rfl rfl ?_
        refine ir_w [(0, (2, ((582 : Nat) : Int))), (1, (0, l1)), (2, (0, (l2 + 1)))] ⟨rfl, rfl, rfl, trivial⟩ ?_
        exact ih144 (l2 + 1) h8 s7 s7v hW.1 (Nat.lt_of_lt_of_le hW.2 (Nat.le_of_lt_succ hr144))
      unfold W_multiply_144 at hW
      refine ir_l (pc' := 145) rfl rfl rfl rfl rfl rfl ?_
      refine ir_k (pc' := 147) (v := (0, 9)) rfl rfl rfl (fun _ => rfl) ?_
      refine ir_c_ge (pt := 202) (pc' := 150) rfl rfl rfl (fun c9 => ?_) (fun c9 => ?_)
      · have hW := hW.1 c9
        refine ir_w [] trivial ?_
        exact J202 s hv hW
      · have hW := hW.2 c9
        refine ir_l (pc' := 151) rfl rfl rfl rfl rfl rfl ?_
        refine ir_cVI (pc' := 154) rfl rfl rfl rfl rfl (Nat.le_of_ble_eq_true rfl) oo_X10_good vg_582 (w_good L ys d s hv  _ hW) (fun z11 s10 hr => ?_)
        obtain ⟨s10v, z11r, hW⟩ := hr
        refine ir_z_eq (pt := 202) (pc' := 157) rfl rfl rfl (fun c12 => ?_) (fun c12 => ?_)
        · have hW := hW.1 c12
          refine ir_w [] trivial ?_
          exact J202 s10 s10v hW
        · have hW := hW.2 c12
          obtain ⟨h13, hW⟩ := hW
          refine ir_l (pc' := 158) rfl rfl rfl rfl rfl rfl ?_
          refine ir_l (pc' := 159) rfl rfl rfl rfl rfl rfl ?_
          refine ir_vgr (pc' := 162) (c := 592) rfl rfl rfl rfl rfl s10v ?_
          refine ir_l (pc' := 163) rfl rfl rfl rfl rfl rfl ?_
          refine ir_vla (pc' := 164) rfl rfl vg_592 rfl (Nat.le_of_ble_eq_true rfl) s10v rfl h13 (fun r14 => ?_)
          refine ir_cVI (pc' := 167) rfl rfl rfl rfl rfl (Nat.le_of_ble_eq_true rfl) oo_X10_isFine vg_582 (w_isFine L ys d s10 s10v (wga s10 592 l2) r14 _ hW) (fun z16 s15 hr => ?_)
          obtain ⟨s15v, z16r, hW⟩ := hr
          refine ir_z_ne (pt := 176) (pc' := 170) rfl rfl rfl (fun c17 => ?_) (fun c17 => ?_)
          · have hW := hW.1 c17
            refine ir_w [(0, (2, ((582 : Nat) : Int))), (1, (0, l1)), (2, (0, l2))] ⟨rfl, rfl, rfl, trivial⟩ ?_
            exact J176 l2 l2r s15 s15v hW
          · have hW := hW.2 c17
            refine ir_l (pc' := 171) rfl rfl rfl rfl rfl rfl ?_
            refine ir_k (pc' := 172) (v := (0, 3)) rfl rfl rfl (fun _ => rfl) ?_
            refine ir_l (pc' := 173) rfl rfl rfl rfl rfl rfl ?_
            refine ir_cVV (pc' := 176) rfl rfl rfl rfl rfl (Nat.le_of_ble_eq_true rfl) oo_X10_fail vg_582 (w_fail L ys d s15 s15v 3 (⟨by decide, by decide⟩ : iR 3) l1 l1r _ hW) (fun s18 hr => ?_)
            obtain ⟨s18v, hW⟩ := hr
            refine ir_w [(0, (2, ((582 : Nat) : Int))), (1, (0, l1)), (2, (0, l2))] ⟨rfl, rfl, rfl, trivial⟩ ?_
            exact J176 l2 l2r s18 s18v hW
  have J23 : ∀ (l1 : Int) (l1r : iR l1) (I23 : Int × im_S → Prop) (r23 : Int × im_S → Nat) (hB23 : ∀ a : Int × im_S, I23 a → W_multiply_23 (fun b => I23 b ∧ r23 b < r23 a) l1 a.1 a.2 Q), ∀ n23 : Nat, ∀ (l2 : Int) (l2r : iR l2) (s : im_S) (hv : vI s), I23 (l2, s) → r23 (l2, s) < n23 → ir gG rm_P L ys (d + 1) rm_p_X10_multiply (23, [(0, (2, ((582 : Nat) : Int))), (1, (0, l1)), (2, (0, l2))], [], s) (fun r : im_Re => r.1 = none ∧ (vI r.2 ∧ Q r.2)) := by
    intro l1 l1r I23 r23 hB23 n23
    induction n23 with
    | zero => intro l2 l2r s hv hI hr; exact absurd hr (Nat.not_lt_zero _)
    | succ n23 ih23 =>
      intro l2 l2r s hv hI hr23
      obtain ⟨t23, ht23⟩ : ∃ t23 : Int × im_S, t23 = (l2, s) := ⟨_, rfl⟩
      rw [← ht23] at hr23
      have hW : W_multiply_23 (fun b => I23 b ∧ r23 b < r23 t23) l1 l2 s Q := by have z := hB23 (l2, s) hI; rw [ht23]; exact z
      have J31 : ∀ (l2 : Int) (l2r : iR l2) (I31 : Int × im_S → Prop) (r31 : Int × im_S → Nat) (hB31 : ∀ a : Int × im_S, I31 a → W_multiply_31 (fun b => I23 b ∧ r23 b < r23 t23) (fun b => I31 b ∧ r31 b < r31 a) l1 l2 a.1 a.2 Q), ∀ n31 : Nat, ∀ (l3 : Int) (l3r : iR l3) (s : im_S) (hv : vI s), I31 (l3, s) → r31 (l3, s) < n31 → ir gG rm_P L ys (d + 1) rm_p_X10_multiply (31, [(0, (2, ((582 : Nat) : Int))), (1, (0, l1)), (2, (0, l2)), (3, (0, l3))], [], s) (fun r : im_Re => r.1 = none ∧ (vI r.2 ∧ Q r.2)) := by
        intro l2 l2r I31 r31 hB31 n31
        induction n31 with
        | zero => intro l3 l3r s hv hI hr; exact absurd hr (Nat.not_lt_zero _)
        | succ n31 ih31 =>
          intro l3 l3r s hv hI hr31
          obtain ⟨t31, ht31⟩ : ∃ t31 : Int × im_S, t31 = (l3, s) := ⟨_, rfl⟩
          rw [← ht31] at hr31
          have hW : W_multiply_31 (fun b => I23 b ∧ r23 b < r23 t23) (fun b => I31 b ∧ r31 b < r31 t31) l1 l2 l3 s Q := by have z := hB31 (l3, s) hI; rw [ht31]; exact z
          have J130 : ∀ (l3 : Int) (l3r : iR l3) (s : im_S) (hv : vI s), W_multiply_130 (fun b => I23 b ∧ r23 b < r23 t23) (fun b => I31 b ∧ r31 b < r31 t31) l1 l2 l3 s Q → ir gG rm_P L ys (d + 1) rm_p_X10_multiply (130, [(0, (2, ((582 : Nat) : Int))), (1, (0, l1)), (2, (0, l2)), (3, (0, l3))], [], s) (fun r : im_Re => r.1 = none ∧ (vI r.2 ∧ Q r.2)) := by
            intro l3 l3r s hv hW
            unfold W_multiply_130 at hW
            obtain ⟨h20, hW⟩ := hW
            refine ir_inc (pc' := 133) rfl rfl rfl rfl rfl h20.1 h20.2 ?_
            refine ir_goto (pc' := 31) rfl rfl ?_
            refine ir_w [(0, (2, ((582 : Nat) : Int))), (1, (0, l1)), (2, (0, l2)), (3, (0, (l3 + 1)))] ⟨rfl, rfl, rfl, rfl, trivial⟩ ?_
            exact ih31 (l3 + 1) h20 s hv hW.1 (Nat.lt_of_lt_of_le hW.2 (Nat.le_of_lt_succ hr31))
          have J100 : ∀ (l3 : Int) (l3r : iR l3) (l4 : Int) (l4r : lR l4) (l6 : Int) (l6r : lR l6) (s : im_S) (hv : vI s), W_multiply_100 (fun b => I23 b ∧ r23 b < r23 t23) (fun b => I31 b ∧ r31 b < r31 t31) l1 l2 l3 l4 l6 s Q → ir gG rm_P L ys (d + 1) rm_p_X10_multiply (100, [(0, (2, ((582 : Nat) : Int))), (1, (0, l1)), (2, (0, l2)), (3, (0, l3)), (4, (1, l4)), (6, (1, l6))], [], s) (fun r : im_Re => r.1 = none ∧ (vI r.2 ∧ Q r.2)) := by
            intro l3 l3r l4 l4r l6 l6r s hv hW
            unfold W_multiply_100 at hW
            refine ir_l (pc' := 102) rfl rfl rfl rfl rfl rfl ?_
            refine ir_k (pc' := 103) (v := (1, 0)) rfl rfl rfl (fun _ => rfl) ?_
            refine ir_lcmp (pc' := 104) rfl rfl l4r.1 l4r.2 (⟨by decide, by decide⟩ : lR 0).1 (⟨by decide, by decide⟩ : lR 0).2 (fun z21 z21c => ?_)
            refine ir_z_eq (pt := 130) (pc' := 107) rfl rfl rfl (fun c22 => ?_) (fun c22 => ?_)
            · have c22 : l4 = 0 := by omega
              have hW := hW.1 c22
              refine ir_w [(0, (2, ((582 : Nat) : Int))), (1, (0, l1)), (2, (0, l2)), (3, (0, l3))] ⟨rfl, rfl, rfl, rfl, trivial⟩ ?_
              exact J130 l3 l3r s hv hW
            · have c22 : ¬ (l4 = 0) := by omega
              have hW := hW.2 c22
              refine ir_l (pc' := 109) rfl rfl rfl rfl rfl rfl ?_
              refine ir_k (pc' := 110) (v := (1, 0)) rfl rfl rfl (fun _ => rfl) ?_
              refine ir_lcmp (pc' := 111) rfl rfl l6r.1 l6r.2 (⟨by decide, by decide⟩ : lR 0).1 (⟨by decide, by decide⟩ : lR 0).2 (fun z23 z23c => ?_)
              refine ir_z_eq (pt := 130) (pc' := 114) rfl rfl rfl (fun c24 => ?_) (fun c24 => ?_)
              · have c24 : l6 = 0 := by omega
                have hW := hW.1 c24
                refine ir_w [(0, (2, ((582 : Nat) : Int))), (1, (0, l1)), (2, (0, l2)), (3, (0, l3))] ⟨rfl, rfl, rfl, rfl, trivial⟩ ?_
                exact J130 l3 l3r s hv hW
              · have c24 : ¬ (l6 = 0) := by omega
                have hW := hW.2 c24
                obtain ⟨h26, h28, h29, h30, hW⟩ := hW
                have h25 : iR (l2 + l3) := ⟨by omega, by omega⟩
                refine ir_l (pc' := 115) rfl rfl rfl rfl rfl rfl ?_
                refine ir_vgr (pc' := 118) (c := 592) rfl rfl rfl rfl rfl hv ?_
                refine ir_l (pc' := 119) rfl rfl rfl rfl rfl rfl ?_
                refine ir_l (pc' := 120) rfl rfl rfl rfl rfl rfl ?_
                refine ir_add (pc' := 121) rfl rfl h25.1 h25.2 ?_
                refine ir_x (pc' := 122) rfl rfl rfl (fun _ => rfl) ?_
                refine ir_vla (pc' := 123) rfl rfl vg_592 rfl (Nat.le_of_ble_eq_true rfl) hv rfl h26 (fun r27 => ?_)
                refine ir_l (pc' := 125) rfl rfl rfl rfl rfl rfl ?_
                refine ir_l (pc' := 127) rfl rfl rfl rfl rfl rfl ?_
                refine ir_lmul (pc' := 128) rfl rfl h28.1 h28.2 ?_
                refine ir_ladd (pc' := 129) rfl rfl h29.1 h29.2 ?_
                refine ir_vls (pc' := 130) rfl rfl vg_592 rfl (Nat.le_of_ble_eq_true rfl) hv rfl h30 h29 (fun s31 s31e s31v => ?_)
                have hW := hW s31 s31e
                refine ir_w [(0, (2, ((582 : Nat) : Int))), (1, (0, l1)), (2, (0, l2)), (3, (0, l3))] ⟨rfl, rfl, rfl, rfl, trivial⟩ ?_
                exact J130 l3 l3r s31 s31v hW
          unfold W_multiply_31 at hW
          refine ir_l (pc' := 32) rfl rfl rfl rfl rfl rfl ?_
          refine ir_k (pc' := 34) (v := (0, 9)) rfl rfl rfl (fun _ => rfl) ?_
          refine ir_c_ge (pt := 136) (pc' := 37) rfl rfl rfl (fun c32 => ?_) (fun c32 => ?_)
          · have hW := hW.1 c32
            obtain ⟨h33, hW⟩ := hW
            refine ir_inc (pc' := 139) rfl rfl rfl rfl rfl h33.1 h33.2 ?_
            refine ir_goto (pc' := 23) rfl rfl ?_
            refine ir_w [(0, (2, ((582 : Nat) : Int))), (1, (0, l1)), (2, (0, (l2 + 1)))] ⟨rfl, rfl, rfl, trivial⟩ ?_
            exact ih23 (l2 + 1) h33 s hv hW.1 (Nat.lt_of_lt_of_le hW.2 (Nat.le_of_lt_succ hr23))
          · have hW := hW.2 c32
            obtain ⟨h35, h37, h41, hW⟩ := hW
            have h36 : iR ((9 * (wgf s 21)) + l2) := ⟨by omega, by omega⟩
            have h40 : iR ((9 * (wgf s 21)) + l3) := ⟨by omega, by omega⟩
            refine ir_l (pc' := 38) rfl rfl rfl rfl rfl rfl ?_
            refine ir_vgr (pc' := 41) (c := 590) rfl rfl rfl rfl rfl hv ?_
            refine ir_k (pc' := 43) (v := (0, 9)) rfl rfl rfl (fun _ => rfl) ?_
            refine ir_l (pc' := 44) rfl rfl rfl rfl rfl rfl ?_
            refine ir_vgi (pc' := 47) rfl rfl rfl rfl rfl hv (fun r34 => ?_)
            refine ir_mul (pc' := 48) rfl rfl h35.1 h35.2 ?_
            refine ir_l (pc' := 49) rfl rfl rfl rfl rfl rfl ?_
            refine ir_add (pc' := 50) rfl rfl h36.1 h36.2 ?_
            refine ir_vla (pc' := 51) rfl rfl vg_590 rfl (Nat.le_of_ble_eq_true rfl) hv rfl h37 (fun r38 => ?_)
            refine ir_s2 (pc' := 53) rfl rfl rfl rfl rfl rfl ?_
            refine ir_l (pc' := 54) rfl rfl rfl rfl rfl rfl ?_
            refine ir_vgr (pc' := 57) (c := 591) rfl rfl rfl rfl rfl hv ?_
            refine ir_k (pc' := 59) (v := (0, 9)) rfl rfl rfl (fun _ => rfl) ?_
            refine ir_l (pc' := 60) rfl rfl rfl rfl rfl rfl ?_
            refine ir_vgi (pc' := 63) rfl rfl rfl rfl rfl hv (fun r39 => ?_)
            refine ir_mul (pc' := 64) rfl rfl h35.1 h35.2 ?_
            refine ir_l (pc' := 65) rfl rfl rfl rfl rfl rfl ?_
            refine ir_add (pc' := 66) rfl rfl h40.1 h40.2 ?_
            refine ir_vla (pc' := 67) rfl rfl vg_591 rfl (Nat.le_of_ble_eq_true rfl) hv rfl h41 (fun r42 => ?_)
            refine ir_s2 (pc' := 69) rfl rfl rfl rfl rfl rfl ?_
            refine ir_l (pc' := 71) rfl rfl rfl rfl rfl rfl ?_
            refine ir_k (pc' := 72) (v := (1, 0)) rfl rfl rfl (fun _ => rfl) ?_
            refine ir_lcmp (pc' := 73) rfl rfl r38.1 r38.2 (⟨by decide, by decide⟩ : lR 0).1 (⟨by decide, by decide⟩ : lR 0).2 (fun z43 z43c => ?_)
            refine ir_z_eq (pt := 100) (pc' := 76) rfl rfl rfl (fun c44 => ?_) (fun c44 => ?_)
            · have c44 : (wga s 590 ((9 * (wgf s 21)) + l2)) = 0 := by omega
              have hW := hW.1 c44
              refine ir_w [(0, (2, ((582 : Nat) : Int))), (1, (0, l1)), (2, (0, l2)), (3, (0, l3)), (4, (1, (wga s 590 ((9 * (wgf s 21)) + l2)))), (6, (1, (wga s 591 ((9 * (wgf s 21)) + l3))))] ⟨rfl, rfl, rfl, rfl, rfl, rfl, trivial⟩ ?_
              exact J100 l3 l3r (wga s 590 ((9 * (wgf s 21)) + l2)) r38 (wga s 591 ((9 * (wgf s 21)) + l3)) r42 s hv hW
            · have c44 : ¬ ((wga s 590 ((9 * (wgf s 21)) + l2)) = 0) := by omega
              have hW := hW.2 c44
              refine ir_l (pc' := 78) rfl rfl rfl rfl rfl rfl ?_
              refine ir_k (pc' := 79) (v := (1, 0)) rfl rfl rfl (fun _ => rfl) ?_
              refine ir_lcmp (pc' := 80) rfl rfl r42.1 r42.2 (⟨by decide, by decide⟩ : lR 0).1 (⟨by decide, by decide⟩ : lR 0).2 (fun z45 z45c => ?_)
              refine ir_z_eq (pt := 100) (pc' := 83) rfl rfl rfl (fun c46 => ?_) (fun c46 => ?_)
              · have c46 : (wga s 591 ((9 * (wgf s 21)) + l3)) = 0 := by omega
                have hW := hW.1 c46
                refine ir_w [(0, (2, ((582 : Nat) : Int))), (1, (0, l1)), (2, (0, l2)), (3, (0, l3)), (4, (1, (wga s 590 ((9 * (wgf s 21)) + l2)))), (6, (1, (wga s 591 ((9 * (wgf s 21)) + l3))))] ⟨rfl, rfl, rfl, rfl, rfl, rfl, trivial⟩ ?_
                exact J100 l3 l3r (wga s 590 ((9 * (wgf s 21)) + l2)) r38 (wga s 591 ((9 * (wgf s 21)) + l3)) r42 s hv hW
              · have c46 : ¬ ((wga s 591 ((9 * (wgf s 21)) + l3)) = 0) := by omega
                have hW := hW.2 c46
                obtain ⟨h47, hW⟩ := hW
                refine ir_l (pc' := 84) rfl rfl rfl rfl rfl rfl ?_
                refine ir_l (pc' := 85) rfl rfl rfl rfl rfl rfl ?_
                refine ir_add (pc' := 86) rfl rfl h47.1 h47.2 ?_
                refine ir_k (pc' := 88) (v := (0, 9)) rfl rfl rfl (fun _ => rfl) ?_
                refine ir_c_lt (pt := 100) (pc' := 91) rfl rfl rfl (fun c48 => ?_) (fun c48 => ?_)
                · have hW := hW.1 c48
                  refine ir_w [(0, (2, ((582 : Nat) : Int))), (1, (0, l1)), (2, (0, l2)), (3, (0, l3)), (4, (1, (wga s 590 ((9 * (wgf s 21)) + l2)))), (6, (1, (wga s 591 ((9 * (wgf s 21)) + l3))))] ⟨rfl, rfl, rfl, rfl, rfl, rfl, trivial⟩ ?_
                  exact J100 l3 l3r (wga s 590 ((9 * (wgf s 21)) + l2)) r38 (wga s 591 ((9 * (wgf s 21)) + l3)) r42 s hv hW
                · have hW := hW.2 c48
                  refine ir_l (pc' := 92) rfl rfl rfl rfl rfl rfl ?_
                  refine ir_k (pc' := 93) (v := (0, 3)) rfl rfl rfl (fun _ => rfl) ?_
                  refine ir_l (pc' := 94) rfl rfl rfl rfl rfl rfl ?_
                  refine ir_cVV (pc' := 97) rfl rfl rfl rfl rfl (Nat.le_of_ble_eq_true rfl) oo_X10_fail vg_582 (w_fail L ys d s hv 3 (⟨by decide, by decide⟩ : iR 3) l1 l1r _ hW) (fun s49 hr => ?_)
                  obtain ⟨s49v, hW⟩ := hr
                  refine ir_goto (pc' := 130) rfl rfl ?_
                  refine ir_w [(0, (2, ((582 : Nat) : Int))), (1, (0, l1)), (2, (0, l2)), (3, (0, l3))] ⟨rfl, rfl, rfl, rfl, trivial⟩ ?_
                  exact J130 l3 l3r s49 s49v hW
      unfold W_multiply_23 at hW
      refine ir_l (pc' := 24) rfl rfl rfl rfl rfl rfl ?_
      refine ir_k (pc' := 26) (v := (0, 9)) rfl rfl rfl (fun _ => rfl) ?_
      refine ir_c_ge (pt := 142) (pc' := 29) rfl rfl rfl (fun c51 => ?_) (fun c51 => ?_)
      · have hW := hW.1 c51
        refine ir_k (pc' := 143) (v := (0, 0)) rfl rfl rfl (fun _ => rfl) ?_
        refine ir_s (pc' := 144) rfl rfl rfl rfl rfl rfl ?_
        refine ir_w [(0, (2, ((582 : Nat) : Int))), (1, (0, l1)), (2, (0, 0))] ⟨rfl, rfl, rfl, trivial⟩ ?_
        obtain ⟨I9, r9, hI9, hB9⟩ := hW
        exact J144 l1 l1r I9 r9 hB9 _ 0 (zR_i (Or.inl rfl)) s hv hI9 (Nat.lt_succ_self _)
      · have hW := hW.2 c51
        refine ir_k (pc' := 30) (v := (0, 0)) rfl rfl rfl (fun _ => rfl) ?_
        refine ir_s (pc' := 31) rfl rfl rfl rfl rfl rfl ?_
        refine ir_w [(0, (2, ((582 : Nat) : Int))), (1, (0, l1)), (2, (0, l2)), (3, (0, 0))] ⟨rfl, rfl, rfl, rfl, trivial⟩ ?_
        obtain ⟨I9, r9, hI9, hB9⟩ := hW
        exact J31 l2 l2r I9 r9 hB9 _ 0 (zR_i (Or.inl rfl)) s hv hI9 (Nat.lt_succ_self _)
  have J2 : ∀ (l1 : Int) (l1r : iR l1) (I2 : Int × im_S → Prop) (r2 : Int × im_S → Nat) (hB2 : ∀ a : Int × im_S, I2 a → W_multiply_2 (fun b => I2 b ∧ r2 b < r2 a) l1 a.1 a.2 Q), ∀ n2 : Nat, ∀ (l2 : Int) (l2r : iR l2) (s : im_S) (hv : vI s), I2 (l2, s) → r2 (l2, s) < n2 → ir gG rm_P L ys (d + 1) rm_p_X10_multiply (2, [(0, (2, ((582 : Nat) : Int))), (1, (0, l1)), (2, (0, l2))], [], s) (fun r : im_Re => r.1 = none ∧ (vI r.2 ∧ Q r.2)) := by
    intro l1 l1r I2 r2 hB2 n2
    induction n2 with
    | zero => intro l2 l2r s hv hI hr; exact absurd hr (Nat.not_lt_zero _)
    | succ n2 ih2 =>
      intro l2 l2r s hv hI hr2
      obtain ⟨t2, ht2⟩ : ∃ t2 : Int × im_S, t2 = (l2, s) := ⟨_, rfl⟩
      rw [← ht2] at hr2
      have hW : W_multiply_2 (fun b => I2 b ∧ r2 b < r2 t2) l1 l2 s Q := by have z := hB2 (l2, s) hI; rw [ht2]; exact z
      unfold W_multiply_2 at hW
      refine ir_l (pc' := 3) rfl rfl rfl rfl rfl rfl ?_
      refine ir_k (pc' := 5) (v := (0, 9)) rfl rfl rfl (fun _ => rfl) ?_
      refine ir_c_ge (pt := 21) (pc' := 8) rfl rfl rfl (fun c52 => ?_) (fun c52 => ?_)
      · have hW := hW.1 c52
        refine ir_k (pc' := 22) (v := (0, 0)) rfl rfl rfl (fun _ => rfl) ?_
        refine ir_s (pc' := 23) rfl rfl rfl rfl rfl rfl ?_
        refine ir_w [(0, (2, ((582 : Nat) : Int))), (1, (0, l1)), (2, (0, 0))] ⟨rfl, rfl, rfl, trivial⟩ ?_
        obtain ⟨I9, r9, hI9, hB9⟩ := hW
        exact J23 l1 l1r I9 r9 hB9 _ 0 (zR_i (Or.inl rfl)) s hv hI9 (Nat.lt_succ_self _)
      · have hW := hW.2 c52
        obtain ⟨h53, hW⟩ := hW
        refine ir_l (pc' := 9) rfl rfl rfl rfl rfl rfl ?_
        refine ir_vgr (pc' := 12) (c := 592) rfl rfl rfl rfl rfl hv ?_
        refine ir_l (pc' := 13) rfl rfl rfl rfl rfl rfl ?_
        refine ir_k (pc' := 14) (v := (1, 0)) rfl rfl rfl (fun _ => rfl) ?_
        refine ir_vls (pc' := 15) rfl rfl vg_592 rfl (Nat.le_of_ble_eq_true rfl) hv rfl h53 (⟨by decide, by decide⟩ : lR 0) (fun s54 s54e s54v => ?_)
        have hW := hW s54 s54e
        obtain ⟨h55, hW⟩ := hW
        refine ir_inc (pc' := 18) rfl rfl rfl rfl rfl h55.1 h55.2 ?_
        refine ir_goto (pc' := 2) rfl rfl ?_
        refine ir_w [(0, (2, ((582 : Nat) : Int))), (1, (0, l1)), (2, (0, (l2 + 1)))] ⟨rfl, rfl, rfl, trivial⟩ ?_
        exact ih2 (l2 + 1) h55 s54 s54v hW.1 (Nat.lt_of_lt_of_le hW.2 (Nat.le_of_lt_succ hr2))
  unfold W_multiply at hW
  refine ir_k (pc' := 1) (v := (0, 0)) rfl rfl rfl (fun _ => rfl) ?_
  refine ir_s (pc' := 2) rfl rfl rfl rfl rfl rfl ?_
  refine ir_w [(0, (2, ((582 : Nat) : Int))), (1, (0, l1)), (2, (0, 0))] ⟨rfl, rfl, rfl, trivial⟩ ?_
  obtain ⟨I9, r9, hI9, hB9⟩ := hW
  exact J2 l1 l1r I9 r9 hB9 _ 0 (zR_i (Or.inl rfl)) s hv hI9 (Nat.lt_succ_self _)
def W_look_26 (s : im_S) (Q : im_S → Prop) : Prop := (Q s)
def W_look (s : im_S) (Q : im_S → Prop) : Prop := (W_peek s (fun z2 s1 => ((z2 = (-1) → (W_look_26 s1 Q)) ∧ (¬ (z2 = (-1)) → (W_isToken z2 s1 (fun z5 s4 => ((¬ (z5 = 0) → (W_look_26 s4 Q)) ∧ (z5 = 0 → (W_fail 1 (wgf s4 4) s4 (fun s8 => (W_look_26 s8 Q)))))))))))
set_option maxRecDepth 16384 in
theorem w_look (L : Nat) (ys : Nat → Int32) (d : Nat) (s : im_S) (hv : vI s) (Q : im_S → Prop) (hW : W_look s Q) : icV gG rm_P L ys (d + 3) 66 [(2, ((582 : Nat) : Int))] s (fun s9 => vI s9 ∧ Q s9) := by
  refine ic_startM (M := rm_p_X10_look) om_X10_look (Nat.le_of_ble_eq_true rfl) ?_
  refine ir_w [(0, (2, ((582 : Nat) : Int)))] ⟨rfl, trivial⟩ ?_
  have J26 : ∀ (s : im_S) (hv : vI s), W_look_26 s Q → ir gG rm_P L ys (d + 2) rm_p_X10_look (26, [], [], s) (fun r : im_Re => r.1 = none ∧ (vI r.2 ∧ Q r.2)) := by
    intro s hv hW
    unfold W_look_26 at hW
    exact ir_vret rfl rfl ⟨rfl, hv, hW⟩
  unfold W_look at hW
  refine ir_l (pc' := 1) rfl rfl rfl rfl rfl rfl ?_
  refine ir_cVI (pc' := 4) rfl rfl rfl rfl rfl (Nat.le_of_ble_eq_true rfl) oo_X10_peek vg_582 (w_peek L ys (d + 1) s hv  _ hW) (fun z2 s1 hr => ?_)
  obtain ⟨s1v, z2r, hW⟩ := hr
  refine ir_s (pc' := 5) rfl rfl rfl rfl rfl rfl ?_
  refine ir_l (pc' := 6) rfl rfl rfl rfl rfl rfl ?_
  refine ir_k (pc' := 7) (v := (0, (-1))) rfl rfl rfl (fun _ => rfl) ?_
  refine ir_c_eq (pt := 26) (pc' := 10) rfl rfl rfl (fun c3 => ?_) (fun c3 => ?_)
  · have hW := hW.1 c3
    refine ir_w [] trivial ?_
    exact J26 s1 s1v hW
  · have hW := hW.2 c3
    refine ir_l (pc' := 11) rfl rfl rfl rfl rfl rfl ?_
    refine ir_cSI (pc' := 14) rfl rfl rfl rfl rfl rfl (Nat.le_of_ble_eq_true rfl) (w_isToken L ys d s1 s1v z2 z2r _ hW) (fun z5 s4 hr => ?_)
    obtain ⟨s4v, z5r, hW⟩ := hr
    refine ir_z_ne (pt := 26) (pc' := 17) rfl rfl rfl (fun c6 => ?_) (fun c6 => ?_)
    · have hW := hW.1 c6
      refine ir_w [] trivial ?_
      exact J26 s4 s4v hW
    · have hW := hW.2 c6
      refine ir_l (pc' := 18) rfl rfl rfl rfl rfl rfl ?_
      refine ir_k (pc' := 19) (v := (0, 1)) rfl rfl rfl (fun _ => rfl) ?_
      refine ir_l (pc' := 20) rfl rfl rfl rfl rfl rfl ?_
      refine ir_vgi (pc' := 23) rfl rfl rfl rfl rfl s4v (fun r7 => ?_)
      refine ir_cVV (pc' := 26) rfl rfl rfl rfl rfl (Nat.le_of_ble_eq_true rfl) oo_X10_fail vg_582 (w_fail L ys (d + 1) s4 s4v 1 (zR_i (Or.inr rfl)) (wgf s4 4) r7 _ hW) (fun s8 hr => ?_)
      obtain ⟨s8v, hW⟩ := hr
      refine ir_w [] trivial ?_
      exact J26 s8 s8v hW
def W_number_89 (l1 : Int) (s : im_S) (Q : Int → im_S → Prop) : Prop := (Q l1 s)
def W_number_4 (K4 : Int × Int × im_S → Prop) (l1 : Int) (l2 : Int) (s : im_S) (Q : Int → im_S → Prop) : Prop := (((wgf s 1) ≤ (wgf s 4) → (W_number_89 l1 s Q)) ∧ (¬ ((wgf s 1) ≤ (wgf s 4)) → ((0 ≤ (wgf s 4) ∧ (wgf s 4) < 400) ∧ (W_isDigit (wga s 583 (wgf s 4)) s (fun z8 s7 => ((z8 = 0 → (W_number_89 l1 s7 Q)) ∧ (¬ (z8 = 0) → (W_good s7 (fun z11 s10 => ((z11 = 0 → (W_number_89 l1 s10 Q)) ∧ (¬ (z11 = 0) → ((iR (l2 + 1)) ∧ ((¬ ((l2 + 1) = 7) → ((iR (10 * l1)) ∧ (0 ≤ (wgf s10 4) ∧ (wgf s10 4) < 400) ∧ (iR ((10 * l1) + (wga s10 583 (wgf s10 4)))) ∧ (iR (((10 * l1) + (wga s10 583 (wgf s10 4))) - 48)) ∧ (iR ((wgf s10 4) + 1)) ∧ (∀ s23, s23 = wpf s10 4 ((wgf s10 4) + 1) → (K4 ((((10 * l1) + (wga s10 583 (wgf s10 4))) - 48), (l2 + 1), s23))))) ∧ ((l2 + 1) = 7 → (W_fail 1 (wgf s10 4) s10 (fun s25 => (K4 (l1, (l2 + 1), s25))))))))))))))))))
def W_number (s : im_S) (Q : Int → im_S → Prop) : Prop := (wloop (fun (K : Int × Int × im_S → Prop) (a : Int × Int × im_S) => W_number_4 K a.1 a.2.1 a.2.2 Q) (0, 0, s))
set_option maxRecDepth 16384 in
theorem w_number (L : Nat) (ys : Nat → Int32) (d : Nat) (s : im_S) (hv : vI s) (Q : Int → im_S → Prop) (hW : W_number s Q) : icI gG rm_P L ys 0 (d + 2) 73 [(2, ((582 : Nat) : Int))] s (fun z9 s9 => vI s9 ∧ iR z9 ∧ Q z9 s9) := by
  refine ic_startM (M := rm_p_X10_number) om_X10_number (Nat.le_of_ble_eq_true rfl) ?_
  refine ir_w [(0, (2, ((582 : Nat) : Int)))] ⟨rfl, trivial⟩ ?_
  have J89 : ∀ (l1 : Int) (l1r : iR l1) (s : im_S) (hv : vI s), W_number_89 l1 s Q → ir gG rm_P L ys (d + 1) rm_p_X10_number (89, [(1, (0, l1))], [], s) (fun r : im_Re => ∃ z, r.1 = some (0, z) ∧ (vI r.2 ∧ iR z ∧ Q z r.2)) := by
    intro l1 l1r s hv hW
    unfold W_number_89 at hW
    refine ir_l (pc' := 90) rfl rfl rfl rfl rfl rfl ?_
    exact ir_iret rfl rfl ⟨_, rfl, hv, l1r, hW⟩
  have J4 : ∀ (I4 : Int × Int × im_S → Prop) (r4 : Int × Int × im_S → Nat) (hB4 : ∀ a : Int × Int × im_S, I4 a → W_number_4 (fun b => I4 b ∧ r4 b < r4 a) a.1 a.2.1 a.2.2 Q), ∀ n4 : Nat, ∀ (l1 : Int) (l1r : iR l1) (l2 : Int) (l2r : iR l2) (s : im_S) (hv : vI s), I4 (l1, l2, s) → r4 (l1, l2, s) < n4 → ir gG rm_P L ys (d + 1) rm_p_X10_number (4, [(0, (2, ((582 : Nat) : Int))), (1, (0, l1)), (2, (0, l2))], [], s) (fun r : im_Re => ∃ z, r.1 = some (0, z) ∧ (vI r.2 ∧ iR z ∧ Q z r.2)) := by
    intro I4 r4 hB4 n4
    induction n4 with
    | zero => intro l1 l1r l2 l2r s hv hI hr; exact absurd hr (Nat.not_lt_zero _)
    | succ n4 ih4 =>
      intro l1 l1r l2 l2r s hv hI hr4
      obtain ⟨t4, ht4⟩ : ∃ t4 : Int × Int × im_S, t4 = (l1, l2, s) := ⟨_, rfl⟩
      rw [← ht4] at hr4
      have hW : W_number_4 (fun b => I4 b ∧ r4 b < r4 t4) l1 l2 s Q := by have z := hB4 (l1, l2, s) hI; rw [ht4]; exact z
      unfold W_number_4 at hW
      refine ir_l (pc' := 5) rfl rfl rfl rfl rfl rfl ?_
      refine ir_vgi (pc' := 8) rfl rfl rfl rfl rfl hv (fun r1 => ?_)
      refine ir_l (pc' := 9) rfl rfl rfl rfl rfl rfl ?_
      refine ir_vgi (pc' := 12) rfl rfl rfl rfl rfl hv (fun r2 => ?_)
      refine ir_c_ge (pt := 89) (pc' := 15) rfl rfl rfl (fun c3 => ?_) (fun c3 => ?_)
      · have hW := hW.1 c3
        refine ir_w [(1, (0, l1))] ⟨rfl, trivial⟩ ?_
        exact J89 l1 l1r s hv hW
      · have hW := hW.2 c3
        obtain ⟨h5, hW⟩ := hW
        refine ir_l (pc' := 16) rfl rfl rfl rfl rfl rfl ?_
        refine ir_vgr (pc' := 19) (c := 583) rfl rfl rfl rfl rfl hv ?_
        refine ir_l (pc' := 20) rfl rfl rfl rfl rfl rfl ?_
        refine ir_vgi (pc' := 23) rfl rfl rfl rfl rfl hv (fun r4 => ?_)
        refine ir_via (pc' := 24) rfl rfl vg_583 rfl (Nat.le_of_ble_eq_true rfl) hv rfl h5 (fun r6 => ?_)
        refine ir_cSI (pc' := 27) rfl rfl rfl rfl rfl rfl (Nat.le_of_ble_eq_true rfl) (w_isDigit L ys d s hv (wga s 583 (wgf s 4)) r6 _ hW) (fun z8 s7 hr => ?_)
        obtain ⟨s7v, z8r, hW⟩ := hr
        refine ir_z_eq (pt := 89) (pc' := 30) rfl rfl rfl (fun c9 => ?_) (fun c9 => ?_)
        · have hW := hW.1 c9
          refine ir_w [(1, (0, l1))] ⟨rfl, trivial⟩ ?_
          exact J89 l1 l1r s7 s7v hW
        · have hW := hW.2 c9
          refine ir_l (pc' := 31) rfl rfl rfl rfl rfl rfl ?_
          refine ir_cVI (pc' := 34) rfl rfl rfl rfl rfl (Nat.le_of_ble_eq_true rfl) oo_X10_good vg_582 (w_good L ys d s7 s7v  _ hW) (fun z11 s10 hr => ?_)
          obtain ⟨s10v, z11r, hW⟩ := hr
          refine ir_z_eq (pt := 89) (pc' := 37) rfl rfl rfl (fun c12 => ?_) (fun c12 => ?_)
          · have hW := hW.1 c12
            refine ir_w [(1, (0, l1))] ⟨rfl, trivial⟩ ?_
            exact J89 l1 l1r s10 s10v hW
          · have hW := hW.2 c12
            obtain ⟨h13, hW⟩ := hW
            refine ir_inc (pc' := 40) rfl rfl rfl rfl rfl h13.1 h13.2 ?_
            refine ir_l (pc' := 41) rfl rfl rfl rfl rfl rfl ?_
            refine ir_k (pc' := 43) (v := (0, 7)) rfl rfl rfl (fun _ => rfl) ?_
            refine ir_c_ne (pt := 58) (pc' := 46) rfl rfl rfl (fun c14 => ?_) (fun c14 => ?_)
            · have hW := hW.1 c14
              obtain ⟨h15, h17, h19, h20, h22, hW⟩ := hW
              refine ir_k (pc' := 60) (v := (0, 10)) rfl rfl rfl (fun _ => rfl) ?_
              refine ir_l (pc' := 61) rfl rfl rfl rfl rfl rfl ?_
              refine ir_mul (pc' := 62) rfl rfl h15.1 h15.2 ?_
              refine ir_l (pc' := 63) rfl rfl rfl rfl rfl rfl ?_
              refine ir_vgr (pc' := 66) (c := 583) rfl rfl rfl rfl rfl s10v ?_
              refine ir_l (pc' := 67) rfl rfl rfl rfl rfl rfl ?_
              refine ir_vgi (pc' := 70) rfl rfl rfl rfl rfl s10v (fun r16 => ?_)
              refine ir_via (pc' := 71) rfl rfl vg_583 rfl (Nat.le_of_ble_eq_true rfl) s10v rfl h17 (fun r18 => ?_)
              refine ir_add (pc' := 72) rfl rfl h19.1 h19.2 ?_
              refine ir_k (pc' := 74) (v := (0, 48)) rfl rfl rfl (fun _ => rfl) ?_
              refine ir_sub (pc' := 75) rfl rfl h20.1 h20.2 ?_
              refine ir_s (pc' := 76) rfl rfl rfl rfl rfl rfl ?_
              refine ir_l (pc' := 77) rfl rfl rfl rfl rfl rfl ?_
              refine ir_x (pc' := 78) rfl rfl rfl (fun _ => rfl) ?_
              refine ir_vgi (pc' := 81) rfl rfl rfl rfl rfl s10v (fun r21 => ?_)
              refine ir_k (pc' := 82) (v := (0, 1)) rfl rfl rfl (fun _ => rfl) ?_
              refine ir_add (pc' := 83) rfl rfl h22.1 h22.2 ?_
              refine ir_vpi (pc' := 86) rfl rfl rfl rfl rfl rfl rfl s10v h22 (fun s23 s23e s23v => ?_)
              have hW := hW s23 s23e
              refine ir_goto (pc' := 4) rfl rfl ?_
              refine ir_w [(0, (2, ((582 : Nat) : Int))), (1, (0, (((10 * l1) + (wga s10 583 (wgf s10 4))) - 48))), (2, (0, (l2 + 1)))] ⟨rfl, rfl, rfl, trivial⟩ ?_
              exact ih4 (((10 * l1) + (wga s10 583 (wgf s10 4))) - 48) h20 (l2 + 1) h13 s23 s23v hW.1 (Nat.lt_of_lt_of_le hW.2 (Nat.le_of_lt_succ hr4))
            · have hW := hW.2 c14
              refine ir_l (pc' := 47) rfl rfl rfl rfl rfl rfl ?_
              refine ir_k (pc' := 48) (v := (0, 1)) rfl rfl rfl (fun _ => rfl) ?_
              refine ir_l (pc' := 49) rfl rfl rfl rfl rfl rfl ?_
              refine ir_vgi (pc' := 52) rfl rfl rfl rfl rfl s10v (fun r24 => ?_)
              refine ir_cVV (pc' := 55) rfl rfl rfl rfl rfl (Nat.le_of_ble_eq_true rfl) oo_X10_fail vg_582 (w_fail L ys d s10 s10v 1 (zR_i (Or.inr rfl)) (wgf s10 4) r24 _ hW) (fun s25 hr => ?_)
              obtain ⟨s25v, hW⟩ := hr
              refine ir_goto (pc' := 4) rfl rfl ?_
              refine ir_w [(0, (2, ((582 : Nat) : Int))), (1, (0, l1)), (2, (0, (l2 + 1)))] ⟨rfl, rfl, rfl, trivial⟩ ?_
              exact ih4 l1 l1r (l2 + 1) h13 s25 s25v hW.1 (Nat.lt_of_lt_of_le hW.2 (Nat.le_of_lt_succ hr4))
  unfold W_number at hW
  refine ir_k (pc' := 1) (v := (0, 0)) rfl rfl rfl (fun _ => rfl) ?_
  refine ir_s (pc' := 2) rfl rfl rfl rfl rfl rfl ?_
  refine ir_k (pc' := 3) (v := (0, 0)) rfl rfl rfl (fun _ => rfl) ?_
  refine ir_s (pc' := 4) rfl rfl rfl rfl rfl rfl ?_
  refine ir_w [(0, (2, ((582 : Nat) : Int))), (1, (0, 0)), (2, (0, 0))] ⟨rfl, rfl, rfl, trivial⟩ ?_
  obtain ⟨I9, r9, hI9, hB9⟩ := hW
  exact J4 I9 r9 hB9 _ 0 (zR_i (Or.inl rfl)) 0 (zR_i (Or.inl rfl)) s hv hI9 (Nat.lt_succ_self _)
def W_raise_192 (K192 : Int × im_S → Prop) (l3 : Int) (l7 : Int) (s : im_S) (Q : im_S → Prop) : Prop := ((9 ≤ l7 → (Q s)) ∧ (¬ (9 ≤ l7) → ((0 ≤ (l3 + l7) ∧ (l3 + l7) < 108) ∧ (0 ≤ (l3 + l7) ∧ (l3 + l7) < 108) ∧ (∀ s6, s6 = wpa s 591 (l3 + l7) (wga s 590 (l3 + l7)) → ((0 ≤ l7 ∧ l7 < 9) ∧ (0 ≤ (l3 + l7) ∧ (l3 + l7) < 108) ∧ (∀ s11, s11 = wpa s6 590 (l3 + l7) (wga s6 596 l7) → ((iR (l7 + 1)) ∧ (K192 ((l7 + 1), s11)))))))))
def W_raise_189 (l3 : Int) (s : im_S) (Q : im_S → Prop) : Prop := (wloop (fun (K : Int × im_S → Prop) (a : Int × im_S) => W_raise_192 K l3 a.1 a.2 Q) (0, s))
def W_raise_164 (K164 : Int × im_S → Prop) (l2 : Int) (l3 : Int) (l6 : Int) (l7 : Int) (s : im_S) (Q : im_S → Prop) : Prop := ((l6 ≤ l7 → (W_raise_189 l3 s Q)) ∧ (¬ (l6 ≤ l7) → (W_good s (fun z15 s14 => ((z15 = 0 → (W_raise_189 l3 s14 Q)) ∧ (¬ (z15 = 0) → (W_multiply l2 s14 (fun s17 => ((iR (l7 + 1)) ∧ (K164 ((l7 + 1), s17)))))))))))
def W_raise_113 (K113 : Int × im_S → Prop) (l2 : Int) (l3 : Int) (l6 : Int) (l7 : Int) (s : im_S) (Q : im_S → Prop) : Prop := ((9 ≤ l7 → (wloop (fun (K : Int × im_S → Prop) (a : Int × im_S) => W_raise_164 K l2 l3 l6 a.1 a.2 Q) (0, s))) ∧ (¬ (9 ≤ l7) → ((0 ≤ (l3 + l7) ∧ (l3 + l7) < 108) ∧ (0 ≤ l7 ∧ l7 < 9) ∧ (∀ s25, s25 = wpa s 596 l7 (wga s 590 (l3 + l7)) → ((iR (l3 + l7)) ∧ (∀ v227 : Int, v227 = (if ¬ (l7 = 0) then 0 else 1) → ((0 ≤ (l3 + l7) ∧ (l3 + l7) < 108) ∧ (∀ s230, s230 = wpa s25 590 (l3 + l7) v227 → ((iR (l7 + 1)) ∧ (K113 ((l7 + 1), s230)))))))))))
def W_raise_14 (K14 : Int × Int × im_S → Prop) (l1 : Int) (l2 : Int) (l3 : Int) (l4 : Int) (l5 : Int) (s : im_S) (Q : im_S → Prop) : Prop := ((9 ≤ l5 → ((¬ (l4 = 0) → (0 ≤ l3 ∧ l3 < 108)) ∧ (¬ (l4 = 0) → ¬ ((wga s 591 l3) < (-1)) → (0 ≤ l3 ∧ l3 < 108)) ∧ (∀ v433 : Int, v433 = (if l4 = 0 then 0 else (if (wga s 591 l3) < (-1) then 0 else (if 1 < (wga s 591 l3) then 0 else 1))) → ((¬ (v433 = 0) → ¬ (l1 ≤ 2) → iR (2 + (l1.tmod 2))) ∧ (∀ v635 : Int, v635 = (if v433 = 0 then l1 else (if l1 ≤ 2 then l1 else (2 + (l1.tmod 2)))) → (wloop (fun (K : Int × im_S → Prop) (a : Int × im_S) => W_raise_113 K l2 l3 v635 a.1 a.2 Q) (0, s))))))) ∧ (¬ (9 ≤ l5) → ((¬ (l4 = 0) → (0 ≤ (l3 + l5) ∧ (l3 + l5) < 108)) ∧ (∀ v837 : Int, v837 = (if l4 = 0 then 0 else (if ¬ ((wga s 591 (l3 + l5)) = 0) then 0 else 1)) → ((iR (l5 + 1)) ∧ (K14 (v837, (l5 + 1), s)))))))
def W_raise (l1 : Int) (l2 : Int) (s : im_S) (Q : im_S → Prop) : Prop := ((iR (9 * (wgf s 21))) ∧ (wloop (fun (K : Int × Int × im_S → Prop) (a : Int × Int × im_S) => W_raise_14 K l1 l2 (9 * (wgf s 21)) a.1 a.2.1 a.2.2 Q) (1, 1, s)))
set_option maxRecDepth 16384 in
theorem w_raise (L : Nat) (ys : Nat → Int32) (d : Nat) (s : im_S) (hv : vI s) (l1 : Int) (l1r : iR l1) (l2 : Int) (l2r : iR l2) (Q : im_S → Prop) (hW : W_raise l1 l2 s Q) : icV gG rm_P L ys (d + 3) 81 [(2, ((582 : Nat) : Int)), (0, l1), (0, l2)] s (fun s9 => vI s9 ∧ Q s9) := by
  refine ic_startM (M := rm_p_X10_raise) om_X10_raise (Nat.le_of_ble_eq_true rfl) ?_
  refine ir_w [(0, (2, ((582 : Nat) : Int))), (1, (0, l1)), (2, (0, l2))] ⟨rfl, rfl, rfl, trivial⟩ ?_
  have J192 : ∀ (l3 : Int) (l3r : iR l3) (I192 : Int × im_S → Prop) (r192 : Int × im_S → Nat) (hB192 : ∀ a : Int × im_S, I192 a → W_raise_192 (fun b => I192 b ∧ r192 b < r192 a) l3 a.1 a.2 Q), ∀ n192 : Nat, ∀ (l7 : Int) (l7r : iR l7) (s : im_S) (hv : vI s), I192 (l7, s) → r192 (l7, s) < n192 → ir gG rm_P L ys (d + 2) rm_p_X10_raise (192, [(0, (2, ((582 : Nat) : Int))), (3, (0, l3)), (7, (0, l7))], [], s) (fun r : im_Re => r.1 = none ∧ (vI r.2 ∧ Q r.2)) := by
    intro l3 l3r I192 r192 hB192 n192
    induction n192 with
    | zero => intro l7 l7r s hv hI hr; exact absurd hr (Nat.not_lt_zero _)
    | succ n192 ih192 =>
      intro l7 l7r s hv hI hr192
      obtain ⟨t192, ht192⟩ : ∃ t192 : Int × im_S, t192 = (l7, s) := ⟨_, rfl⟩
      rw [← ht192] at hr192
      have hW : W_raise_192 (fun b => I192 b ∧ r192 b < r192 t192) l3 l7 s Q := by have z := hB192 (l7, s) hI; rw [ht192]; exact z
      unfold W_raise_192 at hW
      refine ir_l (pc' := 194) rfl rfl rfl rfl rfl rfl ?_
      refine ir_k (pc' := 196) (v := (0, 9)) rfl rfl rfl (fun _ => rfl) ?_
      refine ir_c_ge (pt := 239) (pc' := 199) rfl rfl rfl (fun c1 => ?_) (fun c1 => ?_)
      · have hW := hW.1 c1
        exact ir_vret rfl rfl ⟨rfl, hv, hW⟩
      · have hW := hW.2 c1
        obtain ⟨h3, h5, hW⟩ := hW
        have h2 : iR (l3 + l7) := ⟨by omega, by omega⟩
        refine ir_l (pc' := 200) rfl rfl rfl rfl rfl rfl ?_
        refine ir_vgr (pc' := 203) (c := 591) rfl rfl rfl rfl rfl hv ?_
        refine ir_l (pc' := 204) rfl rfl rfl rfl rfl rfl ?_
        refine ir_l (pc' := 206) rfl rfl rfl rfl rfl rfl ?_
        refine ir_add (pc' := 207) rfl rfl h2.1 h2.2 ?_
        refine ir_l (pc' := 208) rfl rfl rfl rfl rfl rfl ?_
        refine ir_vgr (pc' := 211) (c := 590) rfl rfl rfl rfl rfl hv ?_
        refine ir_l (pc' := 212) rfl rfl rfl rfl rfl rfl ?_
        refine ir_l (pc' := 214) rfl rfl rfl rfl rfl rfl ?_
        refine ir_add (pc' := 215) rfl rfl h2.1 h2.2 ?_
        refine ir_vla (pc' := 216) rfl rfl vg_590 rfl (Nat.le_of_ble_eq_true rfl) hv rfl h3 (fun r4 => ?_)
        refine ir_vls (pc' := 217) rfl rfl vg_591 rfl (Nat.le_of_ble_eq_true rfl) hv rfl h5 r4 (fun s6 s6e s6v => ?_)
        have hW := hW s6 s6e
        obtain ⟨h8, h10, hW⟩ := hW
        have h7 : iR (l3 + l7) := ⟨by omega, by omega⟩
        refine ir_l (pc' := 218) rfl rfl rfl rfl rfl rfl ?_
        refine ir_vgr (pc' := 221) (c := 590) rfl rfl rfl rfl rfl s6v ?_
        refine ir_l (pc' := 222) rfl rfl rfl rfl rfl rfl ?_
        refine ir_l (pc' := 224) rfl rfl rfl rfl rfl rfl ?_
        refine ir_add (pc' := 225) rfl rfl h7.1 h7.2 ?_
        refine ir_l (pc' := 226) rfl rfl rfl rfl rfl rfl ?_
        refine ir_vgr (pc' := 229) (c := 596) rfl rfl rfl rfl rfl s6v ?_
        refine ir_l (pc' := 231) rfl rfl rfl rfl rfl rfl ?_
        refine ir_vla (pc' := 232) rfl rfl vg_596 rfl (Nat.le_of_ble_eq_true rfl) s6v rfl h8 (fun r9 => ?_)
        refine ir_vls (pc' := 233) rfl rfl vg_590 rfl (Nat.le_of_ble_eq_true rfl) s6v rfl h10 r9 (fun s11 s11e s11v => ?_)
        have hW := hW s11 s11e
        obtain ⟨h12, hW⟩ := hW
        refine ir_inc (pc' := 236) rfl rfl rfl rfl rfl h12.1 h12.2 ?_
        refine ir_goto (pc' := 192) rfl rfl ?_
        refine ir_w [(0, (2, ((582 : Nat) : Int))), (3, (0, l3)), (7, (0, (l7 + 1)))] ⟨rfl, rfl, rfl, trivial⟩ ?_
        exact ih192 (l7 + 1) h12 s11 s11v hW.1 (Nat.lt_of_lt_of_le hW.2 (Nat.le_of_lt_succ hr192))
  have J189 : ∀ (l3 : Int) (l3r : iR l3) (s : im_S) (hv : vI s), W_raise_189 l3 s Q → ir gG rm_P L ys (d + 2) rm_p_X10_raise (189, [(0, (2, ((582 : Nat) : Int))), (3, (0, l3))], [], s) (fun r : im_Re => r.1 = none ∧ (vI r.2 ∧ Q r.2)) := by
    intro l3 l3r s hv hW
    unfold W_raise_189 at hW
    refine ir_k (pc' := 190) (v := (0, 0)) rfl rfl rfl (fun _ => rfl) ?_
    refine ir_s (pc' := 192) rfl rfl rfl rfl rfl rfl ?_
    refine ir_w [(0, (2, ((582 : Nat) : Int))), (3, (0, l3)), (7, (0, 0))] ⟨rfl, rfl, rfl, trivial⟩ ?_
    obtain ⟨I9, r9, hI9, hB9⟩ := hW
    exact J192 l3 l3r I9 r9 hB9 _ 0 (zR_i (Or.inl rfl)) s hv hI9 (Nat.lt_succ_self _)
  have J164 : ∀ (l2 : Int) (l2r : iR l2) (l3 : Int) (l3r : iR l3) (l6 : Int) (l6r : iR l6) (I164 : Int × im_S → Prop) (r164 : Int × im_S → Nat) (hB164 : ∀ a : Int × im_S, I164 a → W_raise_164 (fun b => I164 b ∧ r164 b < r164 a) l2 l3 l6 a.1 a.2 Q), ∀ n164 : Nat, ∀ (l7 : Int) (l7r : iR l7) (s : im_S) (hv : vI s), I164 (l7, s) → r164 (l7, s) < n164 → ir gG rm_P L ys (d + 2) rm_p_X10_raise (164, [(0, (2, ((582 : Nat) : Int))), (2, (0, l2)), (3, (0, l3)), (6, (0, l6)), (7, (0, l7))], [], s) (fun r : im_Re => r.1 = none ∧ (vI r.2 ∧ Q r.2)) := by
    intro l2 l2r l3 l3r l6 l6r I164 r164 hB164 n164
    induction n164 with
    | zero => intro l7 l7r s hv hI hr; exact absurd hr (Nat.not_lt_zero _)
    | succ n164 ih164 =>
      intro l7 l7r s hv hI hr164
      obtain ⟨t164, ht164⟩ : ∃ t164 : Int × im_S, t164 = (l7, s) := ⟨_, rfl⟩
      rw [← ht164] at hr164
      have hW : W_raise_164 (fun b => I164 b ∧ r164 b < r164 t164) l2 l3 l6 l7 s Q := by have z := hB164 (l7, s) hI; rw [ht164]; exact z
      unfold W_raise_164 at hW
      refine ir_l (pc' := 166) rfl rfl rfl rfl rfl rfl ?_
      refine ir_l (pc' := 168) rfl rfl rfl rfl rfl rfl ?_
      refine ir_c_ge (pt := 189) (pc' := 171) rfl rfl rfl (fun c13 => ?_) (fun c13 => ?_)
      · have hW := hW.1 c13
        refine ir_w [(0, (2, ((582 : Nat) : Int))), (3, (0, l3))] ⟨rfl, rfl, trivial⟩ ?_
        exact J189 l3 l3r s hv hW
      · have hW := hW.2 c13
        refine ir_l (pc' := 172) rfl rfl rfl rfl rfl rfl ?_
        refine ir_cVI (pc' := 175) rfl rfl rfl rfl rfl (Nat.le_of_ble_eq_true rfl) oo_X10_good vg_582 (w_good L ys (d + 1) s hv  _ hW) (fun z15 s14 hr => ?_)
        obtain ⟨s14v, z15r, hW⟩ := hr
        refine ir_z_eq (pt := 189) (pc' := 178) rfl rfl rfl (fun c16 => ?_) (fun c16 => ?_)
        · have hW := hW.1 c16
          refine ir_w [(0, (2, ((582 : Nat) : Int))), (3, (0, l3))] ⟨rfl, rfl, trivial⟩ ?_
          exact J189 l3 l3r s14 s14v hW
        · have hW := hW.2 c16
          refine ir_l (pc' := 179) rfl rfl rfl rfl rfl rfl ?_
          refine ir_l (pc' := 180) rfl rfl rfl rfl rfl rfl ?_
          refine ir_cVV (pc' := 183) rfl rfl rfl rfl rfl (Nat.le_of_ble_eq_true rfl) oo_X10_multiply vg_582 (w_multiply L ys d s14 s14v l2 l2r _ hW) (fun s17 hr => ?_)
          obtain ⟨s17v, hW⟩ := hr
          obtain ⟨h19, hW⟩ := hW
          refine ir_inc (pc' := 186) rfl rfl rfl rfl rfl h19.1 h19.2 ?_
          refine ir_goto (pc' := 164) rfl rfl ?_
          refine ir_w [(0, (2, ((582 : Nat) : Int))), (2, (0, l2)), (3, (0, l3)), (6, (0, l6)), (7, (0, (l7 + 1)))] ⟨rfl, rfl, rfl, rfl, rfl, trivial⟩ ?_
          exact ih164 (l7 + 1) h19 s17 s17v hW.1 (Nat.lt_of_lt_of_le hW.2 (Nat.le_of_lt_succ hr164))
  have J113 : ∀ (l2 : Int) (l2r : iR l2) (l3 : Int) (l3r : iR l3) (l6 : Int) (l6r : iR l6) (I113 : Int × im_S → Prop) (r113 : Int × im_S → Nat) (hB113 : ∀ a : Int × im_S, I113 a → W_raise_113 (fun b => I113 b ∧ r113 b < r113 a) l2 l3 l6 a.1 a.2 Q), ∀ n113 : Nat, ∀ (l7 : Int) (l7r : iR l7) (s : im_S) (hv : vI s), I113 (l7, s) → r113 (l7, s) < n113 → ir gG rm_P L ys (d + 2) rm_p_X10_raise (113, [(0, (2, ((582 : Nat) : Int))), (2, (0, l2)), (3, (0, l3)), (6, (0, l6)), (7, (0, l7))], [], s) (fun r : im_Re => r.1 = none ∧ (vI r.2 ∧ Q r.2)) := by
    intro l2 l2r l3 l3r l6 l6r I113 r113 hB113 n113
    induction n113 with
    | zero => intro l7 l7r s hv hI hr; exact absurd hr (Nat.not_lt_zero _)
    | succ n113 ih113 =>
      intro l7 l7r s hv hI hr113
      obtain ⟨t113, ht113⟩ : ∃ t113 : Int × im_S, t113 = (l7, s) := ⟨_, rfl⟩
      rw [← ht113] at hr113
      have hW : W_raise_113 (fun b => I113 b ∧ r113 b < r113 t113) l2 l3 l6 l7 s Q := by have z := hB113 (l7, s) hI; rw [ht113]; exact z
      unfold W_raise_113 at hW
      refine ir_l (pc' := 115) rfl rfl rfl rfl rfl rfl ?_
      refine ir_k (pc' := 117) (v := (0, 9)) rfl rfl rfl (fun _ => rfl) ?_
      refine ir_c_ge (pt := 161) (pc' := 120) rfl rfl rfl (fun c20 => ?_) (fun c20 => ?_)
      · have hW := hW.1 c20
        refine ir_k (pc' := 162) (v := (0, 0)) rfl rfl rfl (fun _ => rfl) ?_
        refine ir_s (pc' := 164) rfl rfl rfl rfl rfl rfl ?_
        refine ir_w [(0, (2, ((582 : Nat) : Int))), (2, (0, l2)), (3, (0, l3)), (6, (0, l6)), (7, (0, 0))] ⟨rfl, rfl, rfl, rfl, rfl, trivial⟩ ?_
        obtain ⟨I9, r9, hI9, hB9⟩ := hW
        exact J164 l2 l2r l3 l3r l6 l6r I9 r9 hB9 _ 0 (zR_i (Or.inl rfl)) s hv hI9 (Nat.lt_succ_self _)
      · have hW := hW.2 c20
        obtain ⟨h22, h24, hW⟩ := hW
        have h21 : iR (l3 + l7) := ⟨by omega, by omega⟩
        refine ir_l (pc' := 121) rfl rfl rfl rfl rfl rfl ?_
        refine ir_vgr (pc' := 124) (c := 596) rfl rfl rfl rfl rfl hv ?_
        refine ir_l (pc' := 126) rfl rfl rfl rfl rfl rfl ?_
        refine ir_l (pc' := 127) rfl rfl rfl rfl rfl rfl ?_
        refine ir_vgr (pc' := 130) (c := 590) rfl rfl rfl rfl rfl hv ?_
        refine ir_l (pc' := 131) rfl rfl rfl rfl rfl rfl ?_
        refine ir_l (pc' := 133) rfl rfl rfl rfl rfl rfl ?_
        refine ir_add (pc' := 134) rfl rfl h21.1 h21.2 ?_
        refine ir_vla (pc' := 135) rfl rfl vg_590 rfl (Nat.le_of_ble_eq_true rfl) hv rfl h22 (fun r23 => ?_)
        refine ir_vls (pc' := 136) rfl rfl vg_596 rfl (Nat.le_of_ble_eq_true rfl) hv rfl h24 r23 (fun s25 s25e s25v => ?_)
        have hW := hW s25 s25e
        obtain ⟨h26, hW⟩ := hW
        refine ir_l (pc' := 137) rfl rfl rfl rfl rfl rfl ?_
        refine ir_vgr (pc' := 140) (c := 590) rfl rfl rfl rfl rfl s25v ?_
        refine ir_l (pc' := 141) rfl rfl rfl rfl rfl rfl ?_
        refine ir_l (pc' := 143) rfl rfl rfl rfl rfl rfl ?_
        refine ir_add (pc' := 144) rfl rfl h26.1 h26.2 ?_
        refine ir_l (pc' := 146) rfl rfl rfl rfl rfl rfl ?_
        have J228 : ∀ v227 : Int, lR v227 → (((0 ≤ (l3 + l7) ∧ (l3 + l7) < 108) ∧ (∀ s230, s230 = wpa s25 590 (l3 + l7) v227 → ((iR (l7 + 1)) ∧ ((fun b => I113 b ∧ r113 b < r113 t113) ((l7 + 1), s230)))))) → ir gG rm_P L ys (d + 2) rm_p_X10_raise (154, [(0, (2, ((582 : Nat) : Int))), (2, (0, l2)), (3, (0, l3)), (6, (0, l6)), (7, (0, l7))], [(1, v227), (0, (l3 + l7)), (2, ((590 : Nat) : Int))], s25) (fun r : im_Re => r.1 = none ∧ (vI r.2 ∧ Q r.2)) := by
          intro v227 v227r hW
          obtain ⟨h229, hW⟩ := hW
          refine ir_vls (pc' := 155) rfl rfl vg_590 rfl (Nat.le_of_ble_eq_true rfl) s25v rfl h229 v227r (fun s230 s230e s230v => ?_)
          have hW := hW s230 s230e
          obtain ⟨h231, hW⟩ := hW
          refine ir_inc (pc' := 158) rfl rfl rfl rfl rfl h231.1 h231.2 ?_
          refine ir_goto (pc' := 113) rfl rfl ?_
          refine ir_w [(0, (2, ((582 : Nat) : Int))), (2, (0, l2)), (3, (0, l3)), (6, (0, l6)), (7, (0, (l7 + 1)))] ⟨rfl, rfl, rfl, rfl, rfl, trivial⟩ ?_
          exact ih113 (l7 + 1) h231 s230 s230v hW.1 (Nat.lt_of_lt_of_le hW.2 (Nat.le_of_lt_succ hr113))
        refine ir_z_ne (pt := 153) (pc' := 149) rfl rfl rfl (fun c27 => ?_) (fun c27 => ?_)
        · refine ir_k (pc' := 154) (v := (1, 0)) rfl rfl rfl (fun _ => rfl) ?_
          refine ir_w [(0, (2, ((582 : Nat) : Int))), (2, (0, l2)), (3, (0, l3)), (6, (0, l6)), (7, (0, l7))] ⟨rfl, rfl, rfl, rfl, rfl, trivial⟩ ?_
          exact J228 0 (⟨by decide, by decide⟩ : lR 0) (hW _ (by rw [if_pos c27]))
        · refine ir_k (pc' := 150) (v := (1, 1)) rfl rfl rfl (fun _ => rfl) ?_
          refine ir_goto (pc' := 154) rfl rfl ?_
          refine ir_w [(0, (2, ((582 : Nat) : Int))), (2, (0, l2)), (3, (0, l3)), (6, (0, l6)), (7, (0, l7))] ⟨rfl, rfl, rfl, rfl, rfl, trivial⟩ ?_
          exact J228 1 (⟨by decide, by decide⟩ : lR 1) (hW _ (by rw [if_neg (by omega)]))
  have J14 : ∀ (l1 : Int) (l1r : iR l1) (l2 : Int) (l2r : iR l2) (l3 : Int) (l3r : iR l3) (I14 : Int × Int × im_S → Prop) (r14 : Int × Int × im_S → Nat) (hB14 : ∀ a : Int × Int × im_S, I14 a → W_raise_14 (fun b => I14 b ∧ r14 b < r14 a) l1 l2 l3 a.1 a.2.1 a.2.2 Q), ∀ n14 : Nat, ∀ (l4 : Int) (l4r : iR l4) (l5 : Int) (l5r : iR l5) (s : im_S) (hv : vI s), I14 (l4, l5, s) → r14 (l4, l5, s) < n14 → ir gG rm_P L ys (d + 2) rm_p_X10_raise (14, [(0, (2, ((582 : Nat) : Int))), (1, (0, l1)), (2, (0, l2)), (3, (0, l3)), (4, (0, l4)), (5, (0, l5))], [], s) (fun r : im_Re => r.1 = none ∧ (vI r.2 ∧ Q r.2)) := by
    intro l1 l1r l2 l2r l3 l3r I14 r14 hB14 n14
    induction n14 with
    | zero => intro l4 l4r l5 l5r s hv hI hr; exact absurd hr (Nat.not_lt_zero _)
    | succ n14 ih14 =>
      intro l4 l4r l5 l5r s hv hI hr14
      obtain ⟨t14, ht14⟩ : ∃ t14 : Int × Int × im_S, t14 = (l4, l5, s) := ⟨_, rfl⟩
      rw [← ht14] at hr14
      have hW : W_raise_14 (fun b => I14 b ∧ r14 b < r14 t14) l1 l2 l3 l4 l5 s Q := by have z := hB14 (l4, l5, s) hI; rw [ht14]; exact z
      unfold W_raise_14 at hW
      refine ir_l (pc' := 16) rfl rfl rfl rfl rfl rfl ?_
      refine ir_k (pc' := 18) (v := (0, 9)) rfl rfl rfl (fun _ => rfl) ?_
      refine ir_c_ge (pt := 53) (pc' := 21) rfl rfl rfl (fun c232 => ?_) (fun c232 => ?_)
      · have hW := hW.1 c232
        obtain ⟨h234, h238, hW⟩ := hW
        refine ir_l (pc' := 55) rfl rfl rfl rfl rfl rfl ?_
        have J434 : ∀ v433 : Int, zR v433 → (((¬ (v433 = 0) → ¬ (l1 ≤ 2) → iR (2 + (l1.tmod 2))) ∧ (∀ v635 : Int, v635 = (if v433 = 0 then l1 else (if l1 ≤ 2 then l1 else (2 + (l1.tmod 2)))) → (wloop (fun (K : Int × im_S → Prop) (a : Int × im_S) => W_raise_113 K l2 l3 v635 a.1 a.2 Q) (0, s))))) → ir gG rm_P L ys (d + 2) rm_p_X10_raise (87, [(0, (2, ((582 : Nat) : Int))), (1, (0, l1)), (2, (0, l2)), (3, (0, l3))], [(0, v433)], s) (fun r : im_Re => r.1 = none ∧ (vI r.2 ∧ Q r.2)) := by
          intro v433 v433r hW
          obtain ⟨h437, hW⟩ := hW
          refine ir_s (pc' := 89) rfl rfl rfl rfl rfl rfl ?_
          refine ir_l (pc' := 91) rfl rfl rfl rfl rfl rfl ?_
          have J636 : ∀ v635 : Int, iR v635 → ((wloop (fun (K : Int × im_S → Prop) (a : Int × im_S) => W_raise_113 K l2 l3 v635 a.1 a.2 Q) (0, s))) → ir gG rm_P L ys (d + 2) rm_p_X10_raise (108, [(0, (2, ((582 : Nat) : Int))), (2, (0, l2)), (3, (0, l3))], [(0, v635)], s) (fun r : im_Re => r.1 = none ∧ (vI r.2 ∧ Q r.2)) := by
            intro v635 v635r hW
            refine ir_s (pc' := 110) rfl rfl rfl rfl rfl rfl ?_
            refine ir_k (pc' := 111) (v := (0, 0)) rfl rfl rfl (fun _ => rfl) ?_
            refine ir_s (pc' := 113) rfl rfl rfl rfl rfl rfl ?_
            refine ir_w [(0, (2, ((582 : Nat) : Int))), (2, (0, l2)), (3, (0, l3)), (6, (0, v635)), (7, (0, 0))] ⟨rfl, rfl, rfl, rfl, rfl, trivial⟩ ?_
            obtain ⟨I9, r9, hI9, hB9⟩ := hW
            exact J113 l2 l2r l3 l3r v635 v635r I9 r9 hB9 _ 0 (zR_i (Or.inl rfl)) s hv hI9 (Nat.lt_succ_self _)
          refine ir_z_eq (pt := 107) (pc' := 94) rfl rfl rfl (fun c435 => ?_) (fun c435 => ?_)
          · refine ir_l (pc' := 108) rfl rfl rfl rfl rfl rfl ?_
            refine ir_w [(0, (2, ((582 : Nat) : Int))), (2, (0, l2)), (3, (0, l3))] ⟨rfl, rfl, rfl, trivial⟩ ?_
            exact J636 l1 l1r (hW _ (by rw [if_pos c435]))
          · refine ir_l (pc' := 95) rfl rfl rfl rfl rfl rfl ?_
            refine ir_k (pc' := 96) (v := (0, 2)) rfl rfl rfl (fun _ => rfl) ?_
            refine ir_c_le (pt := 107) (pc' := 99) rfl rfl rfl (fun c436 => ?_) (fun c436 => ?_)
            · refine ir_l (pc' := 108) rfl rfl rfl rfl rfl rfl ?_
              refine ir_w [(0, (2, ((582 : Nat) : Int))), (2, (0, l2)), (3, (0, l3))] ⟨rfl, rfl, rfl, trivial⟩ ?_
              exact J636 l1 l1r (hW _ (by rw [if_neg (fun z => c435 z), if_pos c436]))
            · refine ir_k (pc' := 100) (v := (0, 2)) rfl rfl rfl (fun _ => rfl) ?_
              refine ir_l (pc' := 101) rfl rfl rfl rfl rfl rfl ?_
              refine ir_k (pc' := 102) (v := (0, 2)) rfl rfl rfl (fun _ => rfl) ?_
              refine ir_rem (pc' := 103) rfl rfl l1r.1 l1r.2 (by decide) (⟨by decide, by decide⟩ : iR 2).2 ?_
              refine ir_add (pc' := 104) rfl rfl (h437 c435 c436).1 (h437 c435 c436).2 ?_
              refine ir_goto (pc' := 108) rfl rfl ?_
              refine ir_w [(0, (2, ((582 : Nat) : Int))), (2, (0, l2)), (3, (0, l3))] ⟨rfl, rfl, rfl, trivial⟩ ?_
              exact J636 (2 + (l1.tmod 2)) (h437 c435 c436) (hW _ (by rw [if_neg (fun z => c435 z), if_neg (fun z => c436 z)]))
        refine ir_z_eq (pt := 86) (pc' := 58) rfl rfl rfl (fun c233 => ?_) (fun c233 => ?_)
        · refine ir_k (pc' := 87) (v := (0, 0)) rfl rfl rfl (fun _ => rfl) ?_
          refine ir_w [(0, (2, ((582 : Nat) : Int))), (1, (0, l1)), (2, (0, l2)), (3, (0, l3))] ⟨rfl, rfl, rfl, rfl, trivial⟩ ?_
          exact J434 0 (Or.inl rfl) (hW _ (by rw [if_pos c233]))
        · refine ir_l (pc' := 59) rfl rfl rfl rfl rfl rfl ?_
          refine ir_vgr (pc' := 62) (c := 591) rfl rfl rfl rfl rfl hv ?_
          refine ir_l (pc' := 63) rfl rfl rfl rfl rfl rfl ?_
          refine ir_vla (pc' := 64) rfl rfl vg_591 rfl (Nat.le_of_ble_eq_true rfl) hv rfl (h234 c233) (fun r235 => ?_)
          refine ir_k (pc' := 67) (v := (1, (-1))) rfl rfl rfl (fun _ => rfl) ?_
          refine ir_lcmp (pc' := 68) rfl rfl r235.1 r235.2 (⟨by decide, by decide⟩ : lR (-1)).1 (⟨by decide, by decide⟩ : lR (-1)).2 (fun z236 z236c => ?_)
          refine ir_z_lt (pt := 86) (pc' := 71) rfl rfl rfl (fun c237 => ?_) (fun c237 => ?_)
          · have c237 : (wga s 591 l3) < (-1) := by omega
            refine ir_k (pc' := 87) (v := (0, 0)) rfl rfl rfl (fun _ => rfl) ?_
            refine ir_w [(0, (2, ((582 : Nat) : Int))), (1, (0, l1)), (2, (0, l2)), (3, (0, l3))] ⟨rfl, rfl, rfl, rfl, trivial⟩ ?_
            exact J434 0 (Or.inl rfl) (hW _ (by rw [if_neg (fun z => c233 z), if_pos c237]))
          · have c237 : ¬ ((wga s 591 l3) < (-1)) := by omega
            refine ir_l (pc' := 72) rfl rfl rfl rfl rfl rfl ?_
            refine ir_vgr (pc' := 75) (c := 591) rfl rfl rfl rfl rfl hv ?_
            refine ir_l (pc' := 76) rfl rfl rfl rfl rfl rfl ?_
            refine ir_vla (pc' := 77) rfl rfl vg_591 rfl (Nat.le_of_ble_eq_true rfl) hv rfl (h238 c233 c237) (fun r239 => ?_)
            refine ir_k (pc' := 78) (v := (1, 1)) rfl rfl rfl (fun _ => rfl) ?_
            refine ir_lcmp (pc' := 79) rfl rfl r239.1 r239.2 (⟨by decide, by decide⟩ : lR 1).1 (⟨by decide, by decide⟩ : lR 1).2 (fun z240 z240c => ?_)
            refine ir_z_gt (pt := 86) (pc' := 82) rfl rfl rfl (fun c241 => ?_) (fun c241 => ?_)
            · have c241 : 1 < (wga s 591 l3) := by omega
              refine ir_k (pc' := 87) (v := (0, 0)) rfl rfl rfl (fun _ => rfl) ?_
              refine ir_w [(0, (2, ((582 : Nat) : Int))), (1, (0, l1)), (2, (0, l2)), (3, (0, l3))] ⟨rfl, rfl, rfl, rfl, trivial⟩ ?_
              exact J434 0 (Or.inl rfl) (hW _ (by rw [if_neg (fun z => c233 z), if_neg (fun z => c237 z), if_pos c241]))
            · have c241 : ¬ (1 < (wga s 591 l3)) := by omega
              refine ir_k (pc' := 83) (v := (0, 1)) rfl rfl rfl (fun _ => rfl) ?_
              refine ir_goto (pc' := 87) rfl rfl ?_
              refine ir_w [(0, (2, ((582 : Nat) : Int))), (1, (0, l1)), (2, (0, l2)), (3, (0, l3))] ⟨rfl, rfl, rfl, rfl, trivial⟩ ?_
              exact J434 1 (Or.inr rfl) (hW _ (by rw [if_neg (fun z => c233 z), if_neg (fun z => c237 z), if_neg (fun z => c241 z)]))
      · have hW := hW.2 c232
        obtain ⟨h639, hW⟩ := hW
        have h638 : ¬ (l4 = 0) → iR (l3 + l5) := fun g0_ => ⟨by have z := h639 g0_; omega, by have z := h639 g0_; omega⟩
        refine ir_l (pc' := 23) rfl rfl rfl rfl rfl rfl ?_
        have J838 : ∀ v837 : Int, zR v837 → (((iR (l5 + 1)) ∧ ((fun b => I14 b ∧ r14 b < r14 t14) (v837, (l5 + 1), s)))) → ir gG rm_P L ys (d + 2) rm_p_X10_raise (45, [(0, (2, ((582 : Nat) : Int))), (1, (0, l1)), (2, (0, l2)), (3, (0, l3)), (5, (0, l5))], [(0, v837)], s) (fun r : im_Re => r.1 = none ∧ (vI r.2 ∧ Q r.2)) := by
          intro v837 v837r hW
          obtain ⟨h839, hW⟩ := hW
          refine ir_s (pc' := 47) rfl rfl rfl rfl rfl rfl ?_
          refine ir_inc (pc' := 50) rfl rfl rfl rfl rfl h839.1 h839.2 ?_
          refine ir_goto (pc' := 14) rfl rfl ?_
          refine ir_w [(0, (2, ((582 : Nat) : Int))), (1, (0, l1)), (2, (0, l2)), (3, (0, l3)), (4, (0, v837)), (5, (0, (l5 + 1)))] ⟨rfl, rfl, rfl, rfl, rfl, rfl, trivial⟩ ?_
          exact ih14 v837 (zR_i v837r) (l5 + 1) h839 s hv hW.1 (Nat.lt_of_lt_of_le hW.2 (Nat.le_of_lt_succ hr14))
        refine ir_z_eq (pt := 44) (pc' := 26) rfl rfl rfl (fun c637 => ?_) (fun c637 => ?_)
        · refine ir_k (pc' := 45) (v := (0, 0)) rfl rfl rfl (fun _ => rfl) ?_
          refine ir_w [(0, (2, ((582 : Nat) : Int))), (1, (0, l1)), (2, (0, l2)), (3, (0, l3)), (5, (0, l5))] ⟨rfl, rfl, rfl, rfl, rfl, trivial⟩ ?_
          exact J838 0 (Or.inl rfl) (hW _ (by rw [if_pos c637]))
        · refine ir_l (pc' := 27) rfl rfl rfl rfl rfl rfl ?_
          refine ir_vgr (pc' := 30) (c := 591) rfl rfl rfl rfl rfl hv ?_
          refine ir_l (pc' := 31) rfl rfl rfl rfl rfl rfl ?_
          refine ir_l (pc' := 33) rfl rfl rfl rfl rfl rfl ?_
          refine ir_add (pc' := 34) rfl rfl (h638 c637).1 (h638 c637).2 ?_
          refine ir_vla (pc' := 35) rfl rfl vg_591 rfl (Nat.le_of_ble_eq_true rfl) hv rfl (h639 c637) (fun r640 => ?_)
          refine ir_k (pc' := 36) (v := (1, 0)) rfl rfl rfl (fun _ => rfl) ?_
          refine ir_lcmp (pc' := 37) rfl rfl r640.1 r640.2 (⟨by decide, by decide⟩ : lR 0).1 (⟨by decide, by decide⟩ : lR 0).2 (fun z641 z641c => ?_)
          refine ir_z_ne (pt := 44) (pc' := 40) rfl rfl rfl (fun c642 => ?_) (fun c642 => ?_)
          · have c642 : ¬ ((wga s 591 (l3 + l5)) = 0) := by omega
            refine ir_k (pc' := 45) (v := (0, 0)) rfl rfl rfl (fun _ => rfl) ?_
            refine ir_w [(0, (2, ((582 : Nat) : Int))), (1, (0, l1)), (2, (0, l2)), (3, (0, l3)), (5, (0, l5))] ⟨rfl, rfl, rfl, rfl, rfl, trivial⟩ ?_
            exact J838 0 (Or.inl rfl) (hW _ (by rw [if_neg (fun z => c637 z), if_pos c642]))
          · have c642 : (wga s 591 (l3 + l5)) = 0 := by omega
            refine ir_k (pc' := 41) (v := (0, 1)) rfl rfl rfl (fun _ => rfl) ?_
            refine ir_goto (pc' := 45) rfl rfl ?_
            refine ir_w [(0, (2, ((582 : Nat) : Int))), (1, (0, l1)), (2, (0, l2)), (3, (0, l3)), (5, (0, l5))] ⟨rfl, rfl, rfl, rfl, rfl, trivial⟩ ?_
            exact J838 1 (Or.inr rfl) (hW _ (by rw [if_neg (fun z => c637 z), if_neg (by omega)]))
  unfold W_raise at hW
  obtain ⟨h841, hW⟩ := hW
  refine ir_k (pc' := 2) (v := (0, 9)) rfl rfl rfl (fun _ => rfl) ?_
  refine ir_l (pc' := 3) rfl rfl rfl rfl rfl rfl ?_
  refine ir_vgi (pc' := 6) rfl rfl rfl rfl rfl hv (fun r840 => ?_)
  refine ir_mul (pc' := 7) rfl rfl h841.1 h841.2 ?_
  refine ir_s (pc' := 8) rfl rfl rfl rfl rfl rfl ?_
  refine ir_k (pc' := 9) (v := (0, 1)) rfl rfl rfl (fun _ => rfl) ?_
  refine ir_s (pc' := 11) rfl rfl rfl rfl rfl rfl ?_
  refine ir_k (pc' := 12) (v := (0, 1)) rfl rfl rfl (fun _ => rfl) ?_
  refine ir_s (pc' := 14) rfl rfl rfl rfl rfl rfl ?_
  refine ir_w [(0, (2, ((582 : Nat) : Int))), (1, (0, l1)), (2, (0, l2)), (3, (0, (9 * (wgf s 21)))), (4, (0, 1)), (5, (0, 1))] ⟨rfl, rfl, rfl, rfl, rfl, rfl, trivial⟩ ?_
  obtain ⟨I9, r9, hI9, hB9⟩ := hW
  exact J14 l1 l1r l2 l2r (9 * (wgf s 21)) h841 I9 r9 hB9 _ 1 (zR_i (Or.inr rfl)) 1 (zR_i (Or.inr rfl)) s hv hI9 (Nat.lt_succ_self _)
