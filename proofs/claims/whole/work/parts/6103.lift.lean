/-! THE REFERENCE LIFTED, by program -/
def W_minus (l1 : Int) (l2 : Int) (s : im_S) (Q : Int → im_S → Prop) : Prop := (W_less l2 s (fun z3 s2 => (W_plus l1 z3 s2 (fun z5 s4 => (W_keep (wgf s 24) z5 s4 (fun z7 s6 => (Q z7 s6)))))))
set_option maxRecDepth 16384 in
theorem w_minus (L : Nat) (ys : Nat → Int32) (d : Nat) (s : im_S) (hv : vI s) (l1 : Int) (l1r : iR l1) (l2 : Int) (l2r : iR l2) (Q : Int → im_S → Prop) (hW : W_minus l1 l2 s Q) : icI gG rm_P L ys 0 (d + 5) 69 [(2, ((582 : Nat) : Int)), (0, l1), (0, l2)] s (fun z9 s9 => vI s9 ∧ iR z9 ∧ Q z9 s9) := by
  refine ic_startM (M := rm_p_X10_minus) om_X10_minus (Nat.le_of_ble_eq_true rfl) ?_
  refine ir_w [(0, (2, ((582 : Nat) : Int))), (1, (0, l1)), (2, (0, l2))] ⟨rfl, rfl, rfl, trivial⟩ ?_
  unfold W_minus at hW
  refine ir_l (pc' := 1) rfl rfl rfl rfl rfl rfl ?_
  refine ir_vgi (pc' := 4) rfl rfl rfl rfl rfl hv (fun r1 => ?_)
  refine ir_s (pc' := 5) rfl rfl rfl rfl rfl rfl ?_
  refine ir_l (pc' := 6) rfl rfl rfl rfl rfl rfl ?_
  refine ir_l (pc' := 7) rfl rfl rfl rfl rfl rfl ?_
  refine ir_l (pc' := 8) rfl rfl rfl rfl rfl rfl ?_
  refine ir_l (pc' := 9) rfl rfl rfl rfl rfl rfl ?_
  refine ir_l (pc' := 10) rfl rfl rfl rfl rfl rfl ?_
  refine ir_l (pc' := 11) rfl rfl rfl rfl rfl rfl ?_
  refine ir_cVI (pc' := 14) rfl rfl rfl rfl rfl (Nat.le_of_ble_eq_true rfl) oo_X10_less vg_582 (w_less L ys d s hv l2 l2r _ hW) (fun z3 s2 hr => ?_)
  obtain ⟨s2v, z3r, hW⟩ := hr
  refine ir_cVI (pc' := 17) rfl rfl rfl rfl rfl (Nat.le_of_ble_eq_true rfl) oo_X10_plus vg_582 (w_plus L ys d s2 s2v l1 l1r z3 z3r _ hW) (fun z5 s4 hr => ?_)
  obtain ⟨s4v, z5r, hW⟩ := hr
  refine ir_cVI (pc' := 20) rfl rfl rfl rfl rfl (Nat.le_of_ble_eq_true rfl) oo_X10_keep vg_582 (w_keep L ys (d + 1) s4 s4v (wgf s 24) r1 z5 z5r _ hW) (fun z7 s6 hr => ?_)
  obtain ⟨s6v, z7r, hW⟩ := hr
  exact ir_iret rfl rfl ⟨_, rfl, s6v, z7r, hW⟩
def W_over_110 (l3 : Int) (l5 : Int) (s : im_S) (Q : Int → im_S → Prop) : Prop := (W_keep l3 l5 s (fun z2 s1 => (Q z2 s1)))
def W_over (l1 : Int) (l2 : Int) (s : im_S) (Q : Int → im_S → Prop) : Prop := (W_divide l1 l2 s (fun z5 s4 => (W_sgn l1 s4 (fun z8 s7 => (W_sgn l2 s7 (fun z10 s9 => ((iR (z8 * z10)) ∧ (∀ v212 : Int, v212 = (if 0 ≤ (z8 * z10) then 0 else 1) → ((0 ≤ z5 ∧ z5 < 700000) ∧ (∀ v416 : Int, v416 = (if (wga s9 597 z5) = 0 then 0 else 1) → ((v212 = 0 → (0 ≤ (wgf s4 25) ∧ (wgf s4 25) < 700000)) ∧ (¬ (v212 = 0) → (0 ≤ (wgf s4 25) ∧ (wgf s4 25) < 700000)) ∧ (¬ (v212 = 0) → iR (-(wga s9 597 (wgf s4 25)))) ∧ (∀ v618 : Int, v618 = (if v212 = 0 then (wga s9 597 (wgf s4 25)) else (-(wga s9 597 (wgf s4 25)))) → ((0 ≤ (wgf s4 25) ∧ (wgf s4 25) < 700000) ∧ (∀ s621, s621 = wpa s9 597 (wgf s4 25) v618 → ((v212 = 0 → (W_over_110 (wgf s 24) (wgf s4 25) s621 Q)) ∧ (¬ (v212 = 0) → ((v416 = 0 → (W_over_110 (wgf s 24) (wgf s4 25) s621 Q)) ∧ (¬ (v416 = 0) → (W_whole 1 s621 (fun z625 s624 => (W_minus (wgf s4 25) z625 s624 (fun z627 s626 => (W_over_110 (wgf s 24) z627 s626 Q)))))))))))))))))))))))
set_option maxRecDepth 16384 in
theorem w_over (L : Nat) (ys : Nat → Int32) (d : Nat) (s : im_S) (hv : vI s) (l1 : Int) (l1r : iR l1) (l2 : Int) (l2r : iR l2) (Q : Int → im_S → Prop) (hW : W_over l1 l2 s Q) : icI gG rm_P L ys 0 (d + 6) 74 [(2, ((582 : Nat) : Int)), (0, l1), (0, l2)] s (fun z9 s9 => vI s9 ∧ iR z9 ∧ Q z9 s9) := by
  refine ic_startM (M := rm_p_X10_over) om_X10_over (Nat.le_of_ble_eq_true rfl) ?_
  refine ir_w [(0, (2, ((582 : Nat) : Int))), (1, (0, l1)), (2, (0, l2))] ⟨rfl, rfl, rfl, trivial⟩ ?_
  have J110 : ∀ (l3 : Int) (l3r : iR l3) (l5 : Int) (l5r : iR l5) (s : im_S) (hv : vI s), W_over_110 l3 l5 s Q → ir gG rm_P L ys (d + 5) rm_p_X10_over (110, [(0, (2, ((582 : Nat) : Int))), (3, (0, l3)), (5, (0, l5))], [], s) (fun r : im_Re => ∃ z, r.1 = some (0, z) ∧ (vI r.2 ∧ iR z ∧ Q z r.2)) := by
    intro l3 l3r l5 l5r s hv hW
    unfold W_over_110 at hW
    refine ir_l (pc' := 111) rfl rfl rfl rfl rfl rfl ?_
    refine ir_l (pc' := 112) rfl rfl rfl rfl rfl rfl ?_
    refine ir_l (pc' := 114) rfl rfl rfl rfl rfl rfl ?_
    refine ir_cVI (pc' := 117) rfl rfl rfl rfl rfl (Nat.le_of_ble_eq_true rfl) oo_X10_keep vg_582 (w_keep L ys (d + 2) s hv l3 l3r l5 l5r _ hW) (fun z2 s1 hr => ?_)
    obtain ⟨s1v, z2r, hW⟩ := hr
    exact ir_iret rfl rfl ⟨_, rfl, s1v, z2r, hW⟩
  unfold W_over at hW
  refine ir_l (pc' := 1) rfl rfl rfl rfl rfl rfl ?_
  refine ir_vgi (pc' := 4) rfl rfl rfl rfl rfl hv (fun r3 => ?_)
  refine ir_s (pc' := 5) rfl rfl rfl rfl rfl rfl ?_
  refine ir_l (pc' := 6) rfl rfl rfl rfl rfl rfl ?_
  refine ir_l (pc' := 7) rfl rfl rfl rfl rfl rfl ?_
  refine ir_l (pc' := 8) rfl rfl rfl rfl rfl rfl ?_
  refine ir_cVI (pc' := 11) rfl rfl rfl rfl rfl (Nat.le_of_ble_eq_true rfl) oo_X10_divide vg_582 (w_divide L ys (d + 2) s hv l1 l1r l2 l2r _ hW) (fun z5 s4 hr => ?_)
  obtain ⟨s4v, z5r, hW⟩ := hr
  refine ir_s (pc' := 13) rfl rfl rfl rfl rfl rfl ?_
  refine ir_l (pc' := 14) rfl rfl rfl rfl rfl rfl ?_
  refine ir_vgi (pc' := 17) rfl rfl rfl rfl rfl s4v (fun r6 => ?_)
  refine ir_s (pc' := 19) rfl rfl rfl rfl rfl rfl ?_
  refine ir_l (pc' := 20) rfl rfl rfl rfl rfl rfl ?_
  refine ir_l (pc' := 21) rfl rfl rfl rfl rfl rfl ?_
  refine ir_cVI (pc' := 24) rfl rfl rfl rfl rfl (Nat.le_of_ble_eq_true rfl) oo_X10_sgn vg_582 (w_sgn L ys (d + 4) s4 s4v l1 l1r _ hW) (fun z8 s7 hr => ?_)
  obtain ⟨s7v, z8r, hW⟩ := hr
  refine ir_l (pc' := 25) rfl rfl rfl rfl rfl rfl ?_
  refine ir_l (pc' := 26) rfl rfl rfl rfl rfl rfl ?_
  refine ir_cVI (pc' := 29) rfl rfl rfl rfl rfl (Nat.le_of_ble_eq_true rfl) oo_X10_sgn vg_582 (w_sgn L ys (d + 4) s7 s7v l2 l2r _ hW) (fun z10 s9 hr => ?_)
  obtain ⟨s9v, z10r, hW⟩ := hr
  obtain ⟨h11, hW⟩ := hW
  refine ir_mul (pc' := 30) rfl rfl h11.1 h11.2 ?_
  have J213 : ∀ v212 : Int, zR v212 → (((0 ≤ z5 ∧ z5 < 700000) ∧ (∀ v416 : Int, v416 = (if (wga s9 597 z5) = 0 then 0 else 1) → ((v212 = 0 → (0 ≤ (wgf s4 25) ∧ (wgf s4 25) < 700000)) ∧ (¬ (v212 = 0) → (0 ≤ (wgf s4 25) ∧ (wgf s4 25) < 700000)) ∧ (¬ (v212 = 0) → iR (-(wga s9 597 (wgf s4 25)))) ∧ (∀ v618 : Int, v618 = (if v212 = 0 then (wga s9 597 (wgf s4 25)) else (-(wga s9 597 (wgf s4 25)))) → ((0 ≤ (wgf s4 25) ∧ (wgf s4 25) < 700000) ∧ (∀ s621, s621 = wpa s9 597 (wgf s4 25) v618 → ((v212 = 0 → (W_over_110 (wgf s 24) (wgf s4 25) s621 Q)) ∧ (¬ (v212 = 0) → ((v416 = 0 → (W_over_110 (wgf s 24) (wgf s4 25) s621 Q)) ∧ (¬ (v416 = 0) → (W_whole 1 s621 (fun z625 s624 => (W_minus (wgf s4 25) z625 s624 (fun z627 s626 => (W_over_110 (wgf s 24) z627 s626 Q)))))))))))))))) → ir gG rm_P L ys (d + 5) rm_p_X10_over (38, [(0, (2, ((582 : Nat) : Int))), (3, (0, (wgf s 24))), (4, (0, z5)), (5, (0, (wgf s4 25)))], [(0, v212)], s9) (fun r : im_Re => ∃ z, r.1 = some (0, z) ∧ (vI r.2 ∧ iR z ∧ Q z r.2)) := by
    intro v212 v212r hW
    obtain ⟨h214, hW⟩ := hW
    refine ir_s (pc' := 40) rfl rfl rfl rfl rfl rfl ?_
    refine ir_l (pc' := 41) rfl rfl rfl rfl rfl rfl ?_
    refine ir_vgr (pc' := 44) (c := 597) rfl rfl rfl rfl rfl s9v ?_
    refine ir_l (pc' := 46) rfl rfl rfl rfl rfl rfl ?_
    refine ir_via (pc' := 47) rfl rfl vg_597 rfl (Nat.le_of_ble_eq_true rfl) s9v rfl h214 (fun r215 => ?_)
    have J417 : ∀ v416 : Int, zR v416 → (((v212 = 0 → (0 ≤ (wgf s4 25) ∧ (wgf s4 25) < 700000)) ∧ (¬ (v212 = 0) → (0 ≤ (wgf s4 25) ∧ (wgf s4 25) < 700000)) ∧ (¬ (v212 = 0) → iR (-(wga s9 597 (wgf s4 25)))) ∧ (∀ v618 : Int, v618 = (if v212 = 0 then (wga s9 597 (wgf s4 25)) else (-(wga s9 597 (wgf s4 25)))) → ((0 ≤ (wgf s4 25) ∧ (wgf s4 25) < 700000) ∧ (∀ s621, s621 = wpa s9 597 (wgf s4 25) v618 → ((v212 = 0 → (W_over_110 (wgf s 24) (wgf s4 25) s621 Q)) ∧ (¬ (v212 = 0) → ((v416 = 0 → (W_over_110 (wgf s 24) (wgf s4 25) s621 Q)) ∧ (¬ (v416 = 0) → (W_whole 1 s621 (fun z625 s624 => (W_minus (wgf s4 25) z625 s624 (fun z627 s626 => (W_over_110 (wgf s 24) z627 s626 Q)))))))))))))) → ir gG rm_P L ys (d + 5) rm_p_X10_over (55, [(0, (2, ((582 : Nat) : Int))), (3, (0, (wgf s 24))), (5, (0, (wgf s4 25))), (6, (0, v212))], [(0, v416)], s9) (fun r : im_Re => ∃ z, r.1 = some (0, z) ∧ (vI r.2 ∧ iR z ∧ Q z r.2)) := by
      intro v416 v416r hW
      obtain ⟨h419, h421, h423, hW⟩ := hW
      refine ir_s (pc' := 57) rfl rfl rfl rfl rfl rfl ?_
      refine ir_l (pc' := 58) rfl rfl rfl rfl rfl rfl ?_
      refine ir_vgr (pc' := 61) (c := 597) rfl rfl rfl rfl rfl s9v ?_
      refine ir_l (pc' := 63) rfl rfl rfl rfl rfl rfl ?_
      refine ir_l (pc' := 65) rfl rfl rfl rfl rfl rfl ?_
      have J619 : ∀ v618 : Int, iR v618 → (((0 ≤ (wgf s4 25) ∧ (wgf s4 25) < 700000) ∧ (∀ s621, s621 = wpa s9 597 (wgf s4 25) v618 → ((v212 = 0 → (W_over_110 (wgf s 24) (wgf s4 25) s621 Q)) ∧ (¬ (v212 = 0) → ((v416 = 0 → (W_over_110 (wgf s 24) (wgf s4 25) s621 Q)) ∧ (¬ (v416 = 0) → (W_whole 1 s621 (fun z625 s624 => (W_minus (wgf s4 25) z625 s624 (fun z627 s626 => (W_over_110 (wgf s 24) z627 s626 Q)))))))))))) → ir gG rm_P L ys (d + 5) rm_p_X10_over (86, [(0, (2, ((582 : Nat) : Int))), (3, (0, (wgf s 24))), (5, (0, (wgf s4 25))), (6, (0, v212)), (7, (0, v416))], [(0, v618), (0, (wgf s4 25)), (2, ((597 : Nat) : Int))], s9) (fun r : im_Re => ∃ z, r.1 = some (0, z) ∧ (vI r.2 ∧ iR z ∧ Q z r.2)) := by
        intro v618 v618r hW
        obtain ⟨h620, hW⟩ := hW
        refine ir_vis (pc' := 87) rfl rfl vg_597 rfl (Nat.le_of_ble_eq_true rfl) s9v rfl h620 v618r (fun s621 s621e s621v => ?_)
        have hW := hW s621 s621e
        refine ir_l (pc' := 89) rfl rfl rfl rfl rfl rfl ?_
        refine ir_z_eq (pt := 110) (pc' := 92) rfl rfl rfl (fun c622 => ?_) (fun c622 => ?_)
        · have hW := hW.1 c622
          refine ir_w [(0, (2, ((582 : Nat) : Int))), (3, (0, (wgf s 24))), (5, (0, (wgf s4 25)))] ⟨rfl, rfl, rfl, trivial⟩ ?_
          exact J110 (wgf s 24) r3 (wgf s4 25) r6 s621 s621v hW
        · have hW := hW.2 c622
          refine ir_l (pc' := 94) rfl rfl rfl rfl rfl rfl ?_
          refine ir_z_eq (pt := 110) (pc' := 97) rfl rfl rfl (fun c623 => ?_) (fun c623 => ?_)
          · have hW := hW.1 c623
            refine ir_w [(0, (2, ((582 : Nat) : Int))), (3, (0, (wgf s 24))), (5, (0, (wgf s4 25)))] ⟨rfl, rfl, rfl, trivial⟩ ?_
            exact J110 (wgf s 24) r3 (wgf s4 25) r6 s621 s621v hW
          · have hW := hW.2 c623
            refine ir_l (pc' := 98) rfl rfl rfl rfl rfl rfl ?_
            refine ir_l (pc' := 100) rfl rfl rfl rfl rfl rfl ?_
            refine ir_l (pc' := 101) rfl rfl rfl rfl rfl rfl ?_
            refine ir_k (pc' := 102) (v := (1, 1)) rfl rfl rfl (fun _ => rfl) ?_
            refine ir_cVI (pc' := 105) rfl rfl rfl rfl rfl (Nat.le_of_ble_eq_true rfl) oo_X10_whole vg_582 (w_whole L ys (d + 4) s621 s621v 1 (⟨by decide, by decide⟩ : lR 1) _ hW) (fun z625 s624 hr => ?_)
            obtain ⟨s624v, z625r, hW⟩ := hr
            refine ir_cVI (pc' := 108) rfl rfl rfl rfl rfl (Nat.le_of_ble_eq_true rfl) oo_X10_minus vg_582 (w_minus L ys d s624 s624v (wgf s4 25) r6 z625 z625r _ hW) (fun z627 s626 hr => ?_)
            obtain ⟨s626v, z627r, hW⟩ := hr
            refine ir_s (pc' := 110) rfl rfl rfl rfl rfl rfl ?_
            refine ir_w [(0, (2, ((582 : Nat) : Int))), (3, (0, (wgf s 24))), (5, (0, z627))] ⟨rfl, rfl, rfl, trivial⟩ ?_
            exact J110 (wgf s 24) r3 z627 z627r s626 s626v hW
      refine ir_z_eq (pt := 79) (pc' := 68) rfl rfl rfl (fun c418 => ?_) (fun c418 => ?_)
      · refine ir_l (pc' := 80) rfl rfl rfl rfl rfl rfl ?_
        refine ir_vgr (pc' := 83) (c := 597) rfl rfl rfl rfl rfl s9v ?_
        refine ir_l (pc' := 85) rfl rfl rfl rfl rfl rfl ?_
        refine ir_via (pc' := 86) rfl rfl vg_597 rfl (Nat.le_of_ble_eq_true rfl) s9v rfl (h419 c418) (fun r420 => ?_)
        refine ir_w [(0, (2, ((582 : Nat) : Int))), (3, (0, (wgf s 24))), (5, (0, (wgf s4 25))), (6, (0, v212)), (7, (0, v416))] ⟨rfl, rfl, rfl, rfl, rfl, trivial⟩ ?_
        exact J619 (wga s9 597 (wgf s4 25)) r420 (hW _ (by rw [if_pos c418]))
      · refine ir_l (pc' := 69) rfl rfl rfl rfl rfl rfl ?_
        refine ir_vgr (pc' := 72) (c := 597) rfl rfl rfl rfl rfl s9v ?_
        refine ir_l (pc' := 74) rfl rfl rfl rfl rfl rfl ?_
        refine ir_via (pc' := 75) rfl rfl vg_597 rfl (Nat.le_of_ble_eq_true rfl) s9v rfl (h421 c418) (fun r422 => ?_)
        refine ir_ineg (pc' := 76) rfl rfl (w_ng0 (h423 c418)) r422.2 ?_
        refine ir_goto (pc' := 86) rfl rfl ?_
        refine ir_w [(0, (2, ((582 : Nat) : Int))), (3, (0, (wgf s 24))), (5, (0, (wgf s4 25))), (6, (0, v212)), (7, (0, v416))] ⟨rfl, rfl, rfl, rfl, rfl, trivial⟩ ?_
        exact J619 (-(wga s9 597 (wgf s4 25))) (h423 c418) (hW _ (by rw [if_neg (fun z => c418 z)]))
    refine ir_z_eq (pt := 54) (pc' := 50) rfl rfl rfl (fun c216 => ?_) (fun c216 => ?_)
    · refine ir_k (pc' := 55) (v := (0, 0)) rfl rfl rfl (fun _ => rfl) ?_
      refine ir_w [(0, (2, ((582 : Nat) : Int))), (3, (0, (wgf s 24))), (5, (0, (wgf s4 25))), (6, (0, v212))] ⟨rfl, rfl, rfl, rfl, trivial⟩ ?_
      exact J417 0 (Or.inl rfl) (hW _ (by rw [if_pos c216]))
    · refine ir_k (pc' := 51) (v := (0, 1)) rfl rfl rfl (fun _ => rfl) ?_
      refine ir_goto (pc' := 55) rfl rfl ?_
      refine ir_w [(0, (2, ((582 : Nat) : Int))), (3, (0, (wgf s 24))), (5, (0, (wgf s4 25))), (6, (0, v212))] ⟨rfl, rfl, rfl, rfl, trivial⟩ ?_
      exact J417 1 (Or.inr rfl) (hW _ (by rw [if_neg (fun z => c216 z)]))
  refine ir_z_ge (pt := 37) (pc' := 33) rfl rfl rfl (fun c12 => ?_) (fun c12 => ?_)
  · refine ir_k (pc' := 38) (v := (0, 0)) rfl rfl rfl (fun _ => rfl) ?_
    refine ir_w [(0, (2, ((582 : Nat) : Int))), (3, (0, (wgf s 24))), (4, (0, z5)), (5, (0, (wgf s4 25)))] ⟨rfl, rfl, rfl, rfl, trivial⟩ ?_
    exact J213 0 (Or.inl rfl) (hW _ (by rw [if_pos c12]))
  · refine ir_k (pc' := 34) (v := (0, 1)) rfl rfl rfl (fun _ => rfl) ?_
    refine ir_goto (pc' := 38) rfl rfl ?_
    refine ir_w [(0, (2, ((582 : Nat) : Int))), (3, (0, (wgf s 24))), (4, (0, z5)), (5, (0, (wgf s4 25)))] ⟨rfl, rfl, rfl, rfl, trivial⟩ ?_
    exact J213 1 (Or.inr rfl) (hW _ (by rw [if_neg (fun z => c12 z)]))
def W_compare_53 (k0 : Int) (s : im_S) (Q : Int → im_S → Prop) : Prop := (Q k0 s)
def W_compare (l1 : Int) (l2 : Int) (s : im_S) (Q : Int → im_S → Prop) : Prop := (W_sgn l1 s (fun z2 s1 => (W_sgn l2 s1 (fun z4 s3 => ((z2 = z4 → ((0 ≤ z2 → (W_weigh l1 l2 s3 (fun z8 s7 => (W_compare_53 z8 s7 Q)))) ∧ (¬ (0 ≤ z2) → (W_weigh l1 l2 s3 (fun z10 s9 => ((iR (-z10)) ∧ (W_compare_53 (-z10) s9 Q))))))) ∧ (¬ (z2 = z4) → (∀ v212 : Int, v212 = (if z4 ≤ z2 then 1 else (-1)) → (W_compare_53 v212 s3 Q))))))))
set_option maxRecDepth 16384 in
theorem w_compare (L : Nat) (ys : Nat → Int32) (d : Nat) (s : im_S) (hv : vI s) (l1 : Int) (l1r : iR l1) (l2 : Int) (l2r : iR l2) (Q : Int → im_S → Prop) (hW : W_compare l1 l2 s Q) : icI gG rm_P L ys 0 (d + 3) 23 [(2, ((582 : Nat) : Int)), (0, l1), (0, l2)] s (fun z9 s9 => vI s9 ∧ iR z9 ∧ Q z9 s9) := by
  refine ic_startM (M := rm_p_X10_compare) om_X10_compare (Nat.le_of_ble_eq_true rfl) ?_
  refine ir_w [(0, (2, ((582 : Nat) : Int))), (1, (0, l1)), (2, (0, l2))] ⟨rfl, rfl, rfl, trivial⟩ ?_
  have J53 : ∀ (k0 : Int) (k0r : iR k0) (s : im_S) (hv : vI s), W_compare_53 k0 s Q → ir gG rm_P L ys (d + 2) rm_p_X10_compare (53, [], [(0, k0)], s) (fun r : im_Re => ∃ z, r.1 = some (0, z) ∧ (vI r.2 ∧ iR z ∧ Q z r.2)) := by
    intro k0 k0r s hv hW
    unfold W_compare_53 at hW
    exact ir_iret rfl rfl ⟨_, rfl, hv, k0r, hW⟩
  unfold W_compare at hW
  refine ir_l (pc' := 1) rfl rfl rfl rfl rfl rfl ?_
  refine ir_l (pc' := 2) rfl rfl rfl rfl rfl rfl ?_
  refine ir_cVI (pc' := 5) rfl rfl rfl rfl rfl (Nat.le_of_ble_eq_true rfl) oo_X10_sgn vg_582 (w_sgn L ys (d + 1) s hv l1 l1r _ hW) (fun z2 s1 hr => ?_)
  obtain ⟨s1v, z2r, hW⟩ := hr
  refine ir_s (pc' := 6) rfl rfl rfl rfl rfl rfl ?_
  refine ir_l (pc' := 7) rfl rfl rfl rfl rfl rfl ?_
  refine ir_l (pc' := 8) rfl rfl rfl rfl rfl rfl ?_
  refine ir_cVI (pc' := 11) rfl rfl rfl rfl rfl (Nat.le_of_ble_eq_true rfl) oo_X10_sgn vg_582 (w_sgn L ys (d + 1) s1 s1v l2 l2r _ hW) (fun z4 s3 hr => ?_)
  obtain ⟨s3v, z4r, hW⟩ := hr
  refine ir_s (pc' := 13) rfl rfl rfl rfl rfl rfl ?_
  refine ir_l (pc' := 14) rfl rfl rfl rfl rfl rfl ?_
  refine ir_l (pc' := 16) rfl rfl rfl rfl rfl rfl ?_
  refine ir_c_eq (pt := 33) (pc' := 19) rfl rfl rfl (fun c5 => ?_) (fun c5 => ?_)
  · have hW := hW.1 c5
    refine ir_l (pc' := 34) rfl rfl rfl rfl rfl rfl ?_
    refine ir_z_ge (pt := 47) (pc' := 37) rfl rfl rfl (fun c6 => ?_) (fun c6 => ?_)
    · have hW := hW.1 c6
      refine ir_l (pc' := 48) rfl rfl rfl rfl rfl rfl ?_
      refine ir_l (pc' := 49) rfl rfl rfl rfl rfl rfl ?_
      refine ir_l (pc' := 50) rfl rfl rfl rfl rfl rfl ?_
      refine ir_cVI (pc' := 53) rfl rfl rfl rfl rfl (Nat.le_of_ble_eq_true rfl) oo_X10_weigh vg_582 (w_weigh L ys d s3 s3v l1 l1r l2 l2r _ hW) (fun z8 s7 hr => ?_)
      obtain ⟨s7v, z8r, hW⟩ := hr
      refine ir_w [] trivial ?_
      exact J53 z8 z8r s7 s7v hW
    · have hW := hW.2 c6
      refine ir_l (pc' := 38) rfl rfl rfl rfl rfl rfl ?_
      refine ir_l (pc' := 39) rfl rfl rfl rfl rfl rfl ?_
      refine ir_l (pc' := 40) rfl rfl rfl rfl rfl rfl ?_
      refine ir_cVI (pc' := 43) rfl rfl rfl rfl rfl (Nat.le_of_ble_eq_true rfl) oo_X10_weigh vg_582 (w_weigh L ys d s3 s3v l1 l1r l2 l2r _ hW) (fun z10 s9 hr => ?_)
      obtain ⟨s9v, z10r, hW⟩ := hr
      obtain ⟨h11, hW⟩ := hW
      refine ir_ineg (pc' := 44) rfl rfl (w_ng0 h11) z10r.2 ?_
      refine ir_goto (pc' := 53) rfl rfl ?_
      refine ir_w [] trivial ?_
      exact J53 (-z10) h11 s9 s9v hW
  · have hW := hW.2 c5
    refine ir_l (pc' := 20) rfl rfl rfl rfl rfl rfl ?_
    refine ir_l (pc' := 22) rfl rfl rfl rfl rfl rfl ?_
    have J213 : ∀ v212 : Int, iR v212 → ((W_compare_53 v212 s3 Q)) → ir gG rm_P L ys (d + 2) rm_p_X10_compare (53, [], [(0, v212)], s3) (fun r : im_Re => ∃ z, r.1 = some (0, z) ∧ (vI r.2 ∧ iR z ∧ Q z r.2)) := by
      intro v212 v212r hW
      refine ir_w [] trivial ?_
      exact J53 v212 v212r s3 s3v hW
    refine ir_c_ge (pt := 29) (pc' := 25) rfl rfl rfl (fun c12 => ?_) (fun c12 => ?_)
    · refine ir_k (pc' := 30) (v := (0, 1)) rfl rfl rfl (fun _ => rfl) ?_
      refine ir_goto (pc' := 53) rfl rfl ?_
      refine ir_w [] trivial ?_
      exact J213 1 (zR_i (Or.inr rfl)) (hW _ (by rw [if_pos c12]))
    · refine ir_k (pc' := 26) (v := (0, (-1))) rfl rfl rfl (fun _ => rfl) ?_
      refine ir_goto (pc' := 53) rfl rfl ?_
      refine ir_w [] trivial ?_
      exact J213 (-1) (⟨by decide, by decide⟩ : iR (-1)) (hW _ (by rw [if_neg (fun z => c12 z)]))
def W_valueOf_9 (K9 : Int × Int × im_S → Prop) (l1 : Int) (l2 : Int) (l4 : Int) (s : im_S) (Q : Int → im_S → Prop) : Prop := ((l4 ≤ 0 → ((0 ≤ l1 ∧ l1 < 700000) ∧ (¬ (0 ≤ (wga s 597 l1)) → lR (-l2)) ∧ (∀ v204 : Int, v204 = (if 0 ≤ (wga s 597 l1) then l2 else (-l2)) → (Q v204 s)))) ∧ (¬ (l4 ≤ 0) → ((lR (l2 * 1000000000)) ∧ (0 ≤ (l1 + l4) ∧ (l1 + l4) < 700000) ∧ (lR ((l2 * 1000000000) + (wga s 597 (l1 + l4)))) ∧ (iR (l4 + (-1))) ∧ (K9 (((l2 * 1000000000) + (wga s 597 (l1 + l4))), (l4 + (-1)), s)))))
def W_valueOf (l1 : Int) (s : im_S) (Q : Int → im_S → Prop) : Prop := (W_limbs l1 s (fun z213 s212 => (wloop (fun (K : Int × Int × im_S → Prop) (a : Int × Int × im_S) => W_valueOf_9 K l1 a.1 a.2.1 a.2.2 Q) (0, z213, s212))))
set_option maxRecDepth 16384 in
theorem w_valueOf (L : Nat) (ys : Nat → Int32) (d : Nat) (s : im_S) (hv : vI s) (l1 : Int) (l1r : iR l1) (Q : Int → im_S → Prop) (hW : W_valueOf l1 s Q) : icI gG rm_P L ys 1 (d + 2) 104 [(2, ((582 : Nat) : Int)), (0, l1)] s (fun z9 s9 => vI s9 ∧ lR z9 ∧ Q z9 s9) := by
  refine ic_startM (M := rm_p_X10_valueOf) om_X10_valueOf (Nat.le_of_ble_eq_true rfl) ?_
  refine ir_w [(0, (2, ((582 : Nat) : Int))), (1, (0, l1))] ⟨rfl, rfl, trivial⟩ ?_
  have J9 : ∀ (l1 : Int) (l1r : iR l1) (I9 : Int × Int × im_S → Prop) (r9 : Int × Int × im_S → Nat) (hB9 : ∀ a : Int × Int × im_S, I9 a → W_valueOf_9 (fun b => I9 b ∧ r9 b < r9 a) l1 a.1 a.2.1 a.2.2 Q), ∀ n9 : Nat, ∀ (l2 : Int) (l2r : lR l2) (l4 : Int) (l4r : iR l4) (s : im_S) (hv : vI s), I9 (l2, l4, s) → r9 (l2, l4, s) < n9 → ir gG rm_P L ys (d + 1) rm_p_X10_valueOf (9, [(0, (2, ((582 : Nat) : Int))), (1, (0, l1)), (2, (1, l2)), (4, (0, l4))], [], s) (fun r : im_Re => ∃ z, r.1 = some (1, z) ∧ (vI r.2 ∧ lR z ∧ Q z r.2)) := by
    intro l1 l1r I9 r9 hB9 n9
    induction n9 with
    | zero => intro l2 l2r l4 l4r s hv hI hr; exact absurd hr (Nat.not_lt_zero _)
    | succ n9 ih9 =>
      intro l2 l2r l4 l4r s hv hI hr9
      obtain ⟨t9, ht9⟩ : ∃ t9 : Int × Int × im_S, t9 = (l2, l4, s) := ⟨_, rfl⟩
      rw [← ht9] at hr9
      have hW : W_valueOf_9 (fun b => I9 b ∧ r9 b < r9 t9) l1 l2 l4 s Q := by have z := hB9 (l2, l4, s) hI; rw [ht9]; exact z
      unfold W_valueOf_9 at hW
      refine ir_l (pc' := 11) rfl rfl rfl rfl rfl rfl ?_
      refine ir_z_le (pt := 37) (pc' := 14) rfl rfl rfl (fun c1 => ?_) (fun c1 => ?_)
      · have hW := hW.1 c1
        obtain ⟨h2, h5, hW⟩ := hW
        refine ir_l (pc' := 38) rfl rfl rfl rfl rfl rfl ?_
        refine ir_vgr (pc' := 41) (c := 597) rfl rfl rfl rfl rfl hv ?_
        refine ir_l (pc' := 42) rfl rfl rfl rfl rfl rfl ?_
        refine ir_via (pc' := 43) rfl rfl vg_597 rfl (Nat.le_of_ble_eq_true rfl) hv rfl h2 (fun r3 => ?_)
        have J205 : ∀ v204 : Int, lR v204 → ((Q v204 s)) → ir gG rm_P L ys (d + 1) rm_p_X10_valueOf (52, [], [(1, v204)], s) (fun r : im_Re => ∃ z, r.1 = some (1, z) ∧ (vI r.2 ∧ lR z ∧ Q z r.2)) := by
          intro v204 v204r hW
          exact ir_lret rfl rfl ⟨_, rfl, hv, v204r, hW⟩
        refine ir_z_ge (pt := 51) (pc' := 46) rfl rfl rfl (fun c4 => ?_) (fun c4 => ?_)
        · refine ir_l (pc' := 52) rfl rfl rfl rfl rfl rfl ?_
          refine ir_w [] trivial ?_
          exact J205 l2 l2r (hW _ (by rw [if_pos c4]))
        · refine ir_l (pc' := 47) rfl rfl rfl rfl rfl rfl ?_
          refine ir_lneg (pc' := 48) rfl rfl (w_ng1 (h5 c4)) l2r.2 ?_
          refine ir_goto (pc' := 52) rfl rfl ?_
          refine ir_w [] trivial ?_
          exact J205 (-l2) (h5 c4) (hW _ (by rw [if_neg (fun z => c4 z)]))
      · have hW := hW.2 c1
        obtain ⟨h206, h208, h210, h211, hW⟩ := hW
        have h207 : iR (l1 + l4) := ⟨by omega, by omega⟩
        refine ir_l (pc' := 15) rfl rfl rfl rfl rfl rfl ?_
        refine ir_k (pc' := 18) (v := (1, 1000000000)) rfl rfl rfl (fun _ => rfl) ?_
        refine ir_lmul (pc' := 19) rfl rfl h206.1 h206.2 ?_
        refine ir_l (pc' := 20) rfl rfl rfl rfl rfl rfl ?_
        refine ir_vgr (pc' := 23) (c := 597) rfl rfl rfl rfl rfl hv ?_
        refine ir_l (pc' := 24) rfl rfl rfl rfl rfl rfl ?_
        refine ir_l (pc' := 26) rfl rfl rfl rfl rfl rfl ?_
        refine ir_add (pc' := 27) rfl rfl h207.1 h207.2 ?_
        refine ir_via (pc' := 28) rfl rfl vg_597 rfl (Nat.le_of_ble_eq_true rfl) hv rfl h208 (fun r209 => ?_)
        refine ir_i2l (pc' := 29) rfl rfl r209.1 r209.2 ?_
        refine ir_ladd (pc' := 30) rfl rfl h210.1 h210.2 ?_
        refine ir_s2 (pc' := 31) rfl rfl rfl rfl rfl rfl ?_
        refine ir_inc (pc' := 34) rfl rfl rfl rfl rfl h211.1 h211.2 ?_
        refine ir_goto (pc' := 9) rfl rfl ?_
        refine ir_w [(0, (2, ((582 : Nat) : Int))), (1, (0, l1)), (2, (1, ((l2 * 1000000000) + (wga s 597 (l1 + l4))))), (4, (0, (l4 + (-1))))] ⟨rfl, rfl, rfl, rfl, trivial⟩ ?_
        exact ih9 ((l2 * 1000000000) + (wga s 597 (l1 + l4))) h210 (l4 + (-1)) h211 s hv hW.1 (Nat.lt_of_lt_of_le hW.2 (Nat.le_of_lt_succ hr9))
  unfold W_valueOf at hW
  refine ir_k (pc' := 1) (v := (1, 0)) rfl rfl rfl (fun _ => rfl) ?_
  refine ir_s2 (pc' := 2) rfl rfl rfl rfl rfl rfl ?_
  refine ir_l (pc' := 3) rfl rfl rfl rfl rfl rfl ?_
  refine ir_l (pc' := 4) rfl rfl rfl rfl rfl rfl ?_
  refine ir_cVI (pc' := 7) rfl rfl rfl rfl rfl (Nat.le_of_ble_eq_true rfl) oo_X10_limbs vg_582 (w_limbs L ys d s hv l1 l1r _ hW) (fun z213 s212 hr => ?_)
  obtain ⟨s212v, z213r, hW⟩ := hr
  refine ir_s (pc' := 9) rfl rfl rfl rfl rfl rfl ?_
  refine ir_w [(0, (2, ((582 : Nat) : Int))), (1, (0, l1)), (2, (1, 0)), (4, (0, z213))] ⟨rfl, rfl, rfl, rfl, trivial⟩ ?_
  obtain ⟨I9, r9, hI9, hB9⟩ := hW
  exact J9 l1 l1r I9 r9 hB9 _ 0 (⟨by decide, by decide⟩ : lR 0) z213 z213r s212 s212v hI9 (Nat.lt_succ_self _)
def W_divisor_17 (K17 : Int × Int × im_S → Prop) (l4 : Int) (l6 : Int) (s : im_S) (Q : Int → im_S → Prop) : Prop := ((l6 = 0 → (Q l4 s)) ∧ (¬ (l6 = 0) → ((0 < l6) ∧ (K17 (l6, (l4.tmod l6), s)))))
def W_divisor (l0 : Int) (l2 : Int) (s : im_S) (Q : Int → im_S → Prop) : Prop := ((¬ (0 ≤ l0) → lR (-l0)) ∧ (∀ v205 : Int, v205 = (if 0 ≤ l0 then l0 else (-l0)) → (wloop (fun (K : Int × Int × im_S → Prop) (a : Int × Int × im_S) => W_divisor_17 K a.1 a.2.1 a.2.2 Q) (v205, l2, s))))
set_option maxRecDepth 16384 in
theorem w_divisor (L : Nat) (ys : Nat → Int32) (d : Nat) (s : im_S) (hv : vI s) (l0 : Int) (l0r : lR l0) (l2 : Int) (l2r : lR l2) (Q : Int → im_S → Prop) (hW : W_divisor l0 l2 s Q) : icI gG rm_P L ys 1 (d + 1) 30 [(1, l0), (1, l2)] s (fun z9 s9 => vI s9 ∧ lR z9 ∧ Q z9 s9) := by
  refine ic_startM (M := rm_p_X10_divisor) om_X10_divisor (Nat.le_of_ble_eq_true rfl) ?_
  refine ir_w [(0, (1, l0)), (2, (1, l2))] ⟨rfl, rfl, trivial⟩ ?_
  have J17 : ∀ (I17 : Int × Int × im_S → Prop) (r17 : Int × Int × im_S → Nat) (hB17 : ∀ a : Int × Int × im_S, I17 a → W_divisor_17 (fun b => I17 b ∧ r17 b < r17 a) a.1 a.2.1 a.2.2 Q), ∀ n17 : Nat, ∀ (l4 : Int) (l4r : lR l4) (l6 : Int) (l6r : lR l6) (s : im_S) (hv : vI s), I17 (l4, l6, s) → r17 (l4, l6, s) < n17 → ir gG rm_P L ys d rm_p_X10_divisor (17, [(4, (1, l4)), (6, (1, l6))], [], s) (fun r : im_Re => ∃ z, r.1 = some (1, z) ∧ (vI r.2 ∧ lR z ∧ Q z r.2)) := by
    intro I17 r17 hB17 n17
    induction n17 with
    | zero => intro l4 l4r l6 l6r s hv hI hr; exact absurd hr (Nat.not_lt_zero _)
    | succ n17 ih17 =>
      intro l4 l4r l6 l6r s hv hI hr17
      obtain ⟨t17, ht17⟩ : ∃ t17 : Int × Int × im_S, t17 = (l4, l6, s) := ⟨_, rfl⟩
      rw [← ht17] at hr17
      have hW : W_divisor_17 (fun b => I17 b ∧ r17 b < r17 t17) l4 l6 s Q := by have z := hB17 (l4, l6, s) hI; rw [ht17]; exact z
      unfold W_divisor_17 at hW
      refine ir_l (pc' := 19) rfl rfl rfl rfl rfl rfl ?_
      refine ir_k (pc' := 20) (v := (1, 0)) rfl rfl rfl (fun _ => rfl) ?_
      refine ir_lcmp (pc' := 21) rfl rfl l6r.1 l6r.2 (⟨by decide, by decide⟩ : lR 0).1 (⟨by decide, by decide⟩ : lR 0).2 (fun z1 z1c => ?_)
      refine ir_z_eq (pt := 42) (pc' := 24) rfl rfl rfl (fun c2 => ?_) (fun c2 => ?_)
      · have c2 : l6 = 0 := by omega
        have hW := hW.1 c2
        refine ir_l (pc' := 44) rfl rfl rfl rfl rfl rfl ?_
        exact ir_lret rfl rfl ⟨_, rfl, hv, l4r, hW⟩
      · have c2 : ¬ (l6 = 0) := by omega
        have hW := hW.2 c2
        obtain ⟨h3, hW⟩ := hW
        refine ir_l (pc' := 26) rfl rfl rfl rfl rfl rfl ?_
        refine ir_l (pc' := 28) rfl rfl rfl rfl rfl rfl ?_
        refine ir_lrem (pc' := 29) rfl rfl l4r.1 l4r.2 h3 l6r.2 ?_
        refine ir_s2 (pc' := 31) rfl rfl rfl rfl rfl rfl ?_
        refine ir_l (pc' := 33) rfl rfl rfl rfl rfl rfl ?_
        refine ir_s2 (pc' := 35) rfl rfl rfl rfl rfl rfl ?_
        refine ir_l (pc' := 37) rfl rfl rfl rfl rfl rfl ?_
        refine ir_s2 (pc' := 39) rfl rfl rfl rfl rfl rfl ?_
        refine ir_goto (pc' := 17) rfl rfl ?_
        refine ir_w [(4, (1, l6)), (6, (1, (l4.tmod l6)))] ⟨rfl, rfl, trivial⟩ ?_
        exact ih17 l6 l6r (l4.tmod l6) (w_tmod1 l4r h3 l6r) s hv hW.1 (Nat.lt_of_lt_of_le hW.2 (Nat.le_of_lt_succ hr17))
  unfold W_divisor at hW
  obtain ⟨h6, hW⟩ := hW
  refine ir_l (pc' := 1) rfl rfl rfl rfl rfl rfl ?_
  refine ir_k (pc' := 2) (v := (1, 0)) rfl rfl rfl (fun _ => rfl) ?_
  refine ir_lcmp (pc' := 3) rfl rfl l0r.1 l0r.2 (⟨by decide, by decide⟩ : lR 0).1 (⟨by decide, by decide⟩ : lR 0).2 (fun z4 z4c => ?_)
  have J206 : ∀ v205 : Int, lR v205 → ((wloop (fun (K : Int × Int × im_S → Prop) (a : Int × Int × im_S) => W_divisor_17 K a.1 a.2.1 a.2.2 Q) (v205, l2, s))) → ir gG rm_P L ys d rm_p_X10_divisor (12, [(2, (1, l2))], [(1, v205)], s) (fun r : im_Re => ∃ z, r.1 = some (1, z) ∧ (vI r.2 ∧ lR z ∧ Q z r.2)) := by
    intro v205 v205r hW
    refine ir_s2 (pc' := 14) rfl rfl rfl rfl rfl rfl ?_
    refine ir_l (pc' := 15) rfl rfl rfl rfl rfl rfl ?_
    refine ir_s2 (pc' := 17) rfl rfl rfl rfl rfl rfl ?_
    refine ir_w [(4, (1, v205)), (6, (1, l2))] ⟨rfl, rfl, trivial⟩ ?_
    obtain ⟨I9, r9, hI9, hB9⟩ := hW
    exact J17 I9 r9 hB9 _ v205 v205r l2 l2r s hv hI9 (Nat.lt_succ_self _)
  refine ir_z_ge (pt := 11) (pc' := 6) rfl rfl rfl (fun c5 => ?_) (fun c5 => ?_)
  · have c5 : 0 ≤ l0 := by omega
    refine ir_l (pc' := 12) rfl rfl rfl rfl rfl rfl ?_
    refine ir_w [(2, (1, l2))] ⟨rfl, trivial⟩ ?_
    exact J206 l0 l0r (hW _ (by rw [if_pos c5]))
  · have c5 : ¬ (0 ≤ l0) := by omega
    refine ir_l (pc' := 7) rfl rfl rfl rfl rfl rfl ?_
    refine ir_lneg (pc' := 8) rfl rfl (w_ng1 (h6 c5)) l0r.2 ?_
    refine ir_goto (pc' := 12) rfl rfl ?_
    refine ir_w [(2, (1, l2))] ⟨rfl, trivial⟩ ?_
    exact J206 (-l0) (h6 c5) (hW _ (by rw [if_neg (fun z => c5 z)]))
def W_addRoot_312 (s : im_S) (Q : im_S → Prop) : Prop := (Q s)
def W_addRoot_49 (K29 : Int × Int × im_S → Prop) (l1 : Int) (l4 : Int) (l5 : Int) (l6 : Int) (s : im_S) (Q : im_S → Prop) : Prop := (W_whole 2 s (fun z2 s1 => (W_by l4 z2 s1 (fun z4 s3 => (W_whole 1 s3 (fun z6 s5 => (W_plus z4 z6 s5 (fun z8 s7 => ((iR (l5 + 1)) ∧ (W_whole 2 s7 (fun z11 s10 => (W_by l4 z11 s10 (fun z13 s12 => (W_changesAtHalf z13 (l5 + 1) s12 (fun z15 s14 => (W_changesAtHalf z8 (l5 + 1) s14 (fun z17 s16 => ((iR (z15 - z17)) ∧ (∀ v219 : Int, v219 = (if ¬ ((z15 - z17) = 1) then z8 else z13) → (K29 (v219, (l5 + 1), s16)))))))))))))))))))))
def W_addRoot_29 (K29 : Int × Int × im_S → Prop) (l1 : Int) (l6 : Int) (l4 : Int) (l5 : Int) (s : im_S) (Q : im_S → Prop) : Prop := ((l5 < 0 → (W_addRoot_49 K29 l1 l4 l5 l6 s Q)) ∧ (¬ (l5 < 0) → (W_powerOfTwo l5 s (fun z223 s222 => (W_weigh z223 l6 s222 (fun z225 s224 => ((0 < z225 → ((iR ((wgf s224 41) + 1)) ∧ (∀ s230, s230 = wpf s224 41 ((wgf s224 41) + 1) → ((0 ≤ (wgf s224 41) ∧ (wgf s224 41) < 90) ∧ (∀ s232, s232 = wpa s230 607 (wgf s224 41) l1 → ((0 ≤ (wgf s224 41) ∧ (wgf s224 41) < 90) ∧ (∀ s234, s234 = wpa s232 609 (wgf s224 41) 0 → (W_reserve l4 s234 (fun z236 s235 => ((0 ≤ (wgf s224 41) ∧ (wgf s224 41) < 90) ∧ (∀ s238, s238 = wpa s235 611 (wgf s224 41) z236 → ((0 ≤ (wgf s224 41) ∧ (wgf s224 41) < 90) ∧ (∀ s240, s240 = wpa s238 612 (wgf s224 41) l5 → (W_powerOfTwo l5 s240 (fun z242 s241 => (W_whole 1 s241 (fun z244 s243 => (W_plus l4 z244 s243 (fun z246 s245 => (W_by z246 l6 s245 (fun z248 s247 => (W_over z248 z242 s247 (fun z250 s249 => (W_by z250 z242 s249 (fun z252 s251 => (W_by l4 l6 s251 (fun z254 s253 => (W_compare z252 z254 s253 (fun z256 s255 => (∀ v457 : Int, v457 = (if z256 ≤ 0 then 0 else 1) → ((v457 = 0 → (W_addRoot_312 s255 Q)) ∧ (¬ (v457 = 0) → ((0 ≤ l1 ∧ l1 < 200) ∧ (W_signAt2 (wga s255 602 l1) z250 l6 s255 (fun z463 s462 => ((¬ (z463 = 0) → (W_addRoot_312 s462 Q)) ∧ (z463 = 0 → (W_valueOf z250 s462 (fun z466 s465 => (W_valueOf l6 s465 (fun z468 s467 => (W_divisor z466 z468 s467 (fun z470 s469 => ((0 < z470) ∧ (0 ≤ (wgf s224 41) ∧ (wgf s224 41) < 90) ∧ (∀ s473, s473 = wpa s469 608 (wgf s224 41) (z466.tdiv z470) → ((0 < z470) ∧ (0 ≤ (wgf s224 41) ∧ (wgf s224 41) < 90) ∧ (∀ s476, s476 = wpa s473 609 (wgf s224 41) (z468.tdiv z470) → (W_addRoot_312 s476 Q)))))))))))))))))))))))))))))))))))))))))))))))) ∧ (¬ (0 < z225) → (W_addRoot_49 K29 l1 l4 l5 l6 s224 Q)))))))))
def W_addRoot (l1 : Int) (l2 : Int) (l3 : Int) (s : im_S) (Q : im_S → Prop) : Prop := ((0 ≤ l1 ∧ l1 < 200) ∧ (0 ≤ (wga s 602 l1) ∧ (wga s 602 l1) < 1200) ∧ (W_at (wga s 602 l1) (wga s 598 (wga s 602 l1)) s (fun z483 s482 => (wloop (fun (K : Int × Int × im_S → Prop) (a : Int × Int × im_S) => W_addRoot_29 K l1 z483 a.1 a.2.1 a.2.2 Q) (l2, l3, s482)))))
set_option maxRecDepth 16384 in
theorem w_addRoot (L : Nat) (ys : Nat → Int32) (d : Nat) (s : im_S) (hv : vI s) (l1 : Int) (l1r : iR l1) (l2 : Int) (l2r : iR l2) (l3 : Int) (l3r : iR l3) (Q : im_S → Prop) (hW : W_addRoot l1 l2 l3 s Q) : icV gG rm_P L ys (d + 8) 7 [(2, ((582 : Nat) : Int)), (0, l1), (0, l2), (0, l3)] s (fun s9 => vI s9 ∧ Q s9) := by
  refine ic_startM (M := rm_p_X10_addRoot) om_X10_addRoot (Nat.le_of_ble_eq_true rfl) ?_
  refine ir_w [(0, (2, ((582 : Nat) : Int))), (1, (0, l1)), (2, (0, l2)), (3, (0, l3))] ⟨rfl, rfl, rfl, rfl, trivial⟩ ?_
  have J312 : ∀ (s : im_S) (hv : vI s), W_addRoot_312 s Q → ir gG rm_P L ys (d + 7) rm_p_X10_addRoot (312, [], [], s) (fun r : im_Re => r.1 = none ∧ (vI r.2 ∧ Q r.2)) := by
    intro s hv hW
    unfold W_addRoot_312 at hW
    exact ir_vret rfl rfl ⟨rfl, hv, hW⟩
  have J29 : ∀ (l1 : Int) (l1r : iR l1) (l6 : Int) (l6r : iR l6) (I29 : Int × Int × im_S → Prop) (r29 : Int × Int × im_S → Nat) (hB29 : ∀ a : Int × Int × im_S, I29 a → W_addRoot_29 (fun b => I29 b ∧ r29 b < r29 a) l1 l6 a.1 a.2.1 a.2.2 Q), ∀ n29 : Nat, ∀ (l4 : Int) (l4r : iR l4) (l5 : Int) (l5r : iR l5) (s : im_S) (hv : vI s), I29 (l4, l5, s) → r29 (l4, l5, s) < n29 → ir gG rm_P L ys (d + 7) rm_p_X10_addRoot (29, [(0, (2, ((582 : Nat) : Int))), (1, (0, l1)), (4, (0, l4)), (5, (0, l5)), (6, (0, l6))], [], s) (fun r : im_Re => r.1 = none ∧ (vI r.2 ∧ Q r.2)) := by
    intro l1 l1r l6 l6r I29 r29 hB29 n29
    induction n29 with
    | zero => intro l4 l4r l5 l5r s hv hI hr; exact absurd hr (Nat.not_lt_zero _)
    | succ n29 ih29 =>
      intro l4 l4r l5 l5r s hv hI hr29
      obtain ⟨t29, ht29⟩ : ∃ t29 : Int × Int × im_S, t29 = (l4, l5, s) := ⟨_, rfl⟩
      rw [← ht29] at hr29
      have hW : W_addRoot_29 (fun b => I29 b ∧ r29 b < r29 t29) l1 l6 l4 l5 s Q := by have z := hB29 (l4, l5, s) hI; rw [ht29]; exact z
      have J49 : ∀ (l4 : Int) (l4r : iR l4) (l5 : Int) (l5r : iR l5) (s : im_S) (hv : vI s), W_addRoot_49 (fun b => I29 b ∧ r29 b < r29 t29) l1 l4 l5 l6 s Q → ir gG rm_P L ys (d + 7) rm_p_X10_addRoot (49, [(0, (2, ((582 : Nat) : Int))), (1, (0, l1)), (4, (0, l4)), (5, (0, l5)), (6, (0, l6))], [], s) (fun r : im_Re => r.1 = none ∧ (vI r.2 ∧ Q r.2)) := by
        intro l4 l4r l5 l5r s hv hW
        unfold W_addRoot_49 at hW
        refine ir_l (pc' := 50) rfl rfl rfl rfl rfl rfl ?_
        refine ir_l (pc' := 51) rfl rfl rfl rfl rfl rfl ?_
        refine ir_l (pc' := 53) rfl rfl rfl rfl rfl rfl ?_
        refine ir_l (pc' := 54) rfl rfl rfl rfl rfl rfl ?_
        refine ir_k (pc' := 57) (v := (1, 2)) rfl rfl rfl (fun _ => rfl) ?_
        refine ir_cVI (pc' := 60) rfl rfl rfl rfl rfl (Nat.le_of_ble_eq_true rfl) oo_X10_whole vg_582 (w_whole L ys (d + 6) s hv 2 (⟨by decide, by decide⟩ : lR 2) _ hW) (fun z2 s1 hr => ?_)
        obtain ⟨s1v, z2r, hW⟩ := hr
        refine ir_cVI (pc' := 63) rfl rfl rfl rfl rfl (Nat.le_of_ble_eq_true rfl) oo_X10_by vg_582 (w_by L ys (d + 5) s1 s1v l4 l4r z2 z2r _ hW) (fun z4 s3 hr => ?_)
        obtain ⟨s3v, z4r, hW⟩ := hr
        refine ir_l (pc' := 64) rfl rfl rfl rfl rfl rfl ?_
        refine ir_k (pc' := 65) (v := (1, 1)) rfl rfl rfl (fun _ => rfl) ?_
        refine ir_cVI (pc' := 68) rfl rfl rfl rfl rfl (Nat.le_of_ble_eq_true rfl) oo_X10_whole vg_582 (w_whole L ys (d + 6) s3 s3v 1 (⟨by decide, by decide⟩ : lR 1) _ hW) (fun z6 s5 hr => ?_)
        obtain ⟨s5v, z6r, hW⟩ := hr
        refine ir_cVI (pc' := 71) rfl rfl rfl rfl rfl (Nat.le_of_ble_eq_true rfl) oo_X10_plus vg_582 (w_plus L ys (d + 3) s5 s5v z4 z4r z6 z6r _ hW) (fun z8 s7 hr => ?_)
        obtain ⟨s7v, z8r, hW⟩ := hr
        obtain ⟨h9, hW⟩ := hW
        refine ir_s (pc' := 73) rfl rfl rfl rfl rfl rfl ?_
        refine ir_inc (pc' := 76) rfl rfl rfl rfl rfl h9.1 h9.2 ?_
        refine ir_l (pc' := 77) rfl rfl rfl rfl rfl rfl ?_
        refine ir_l (pc' := 79) rfl rfl rfl rfl rfl rfl ?_
        refine ir_l (pc' := 80) rfl rfl rfl rfl rfl rfl ?_
        refine ir_k (pc' := 83) (v := (1, 2)) rfl rfl rfl (fun _ => rfl) ?_
        refine ir_cVI (pc' := 86) rfl rfl rfl rfl rfl (Nat.le_of_ble_eq_true rfl) oo_X10_whole vg_582 (w_whole L ys (d + 6) s7 s7v 2 (⟨by decide, by decide⟩ : lR 2) _ hW) (fun z11 s10 hr => ?_)
        obtain ⟨s10v, z11r, hW⟩ := hr
        refine ir_cVI (pc' := 89) rfl rfl rfl rfl rfl (Nat.le_of_ble_eq_true rfl) oo_X10_by vg_582 (w_by L ys (d + 5) s10 s10v l4 l4r z11 z11r _ hW) (fun z13 s12 hr => ?_)
        obtain ⟨s12v, z13r, hW⟩ := hr
        refine ir_s (pc' := 91) rfl rfl rfl rfl rfl rfl ?_
        refine ir_l (pc' := 92) rfl rfl rfl rfl rfl rfl ?_
        refine ir_l (pc' := 94) rfl rfl rfl rfl rfl rfl ?_
        refine ir_l (pc' := 96) rfl rfl rfl rfl rfl rfl ?_
        refine ir_cVI (pc' := 99) rfl rfl rfl rfl rfl (Nat.le_of_ble_eq_true rfl) oo_X10_changesAtHalf vg_582 (w_changesAtHalf L ys d s12 s12v z13 z13r (l5 + 1) h9 _ hW) (fun z15 s14 hr => ?_)
        obtain ⟨s14v, z15r, hW⟩ := hr
        refine ir_l (pc' := 100) rfl rfl rfl rfl rfl rfl ?_
        refine ir_l (pc' := 102) rfl rfl rfl rfl rfl rfl ?_
        refine ir_l (pc' := 104) rfl rfl rfl rfl rfl rfl ?_
        refine ir_cVI (pc' := 107) rfl rfl rfl rfl rfl (Nat.le_of_ble_eq_true rfl) oo_X10_changesAtHalf vg_582 (w_changesAtHalf L ys d s14 s14v z8 z8r (l5 + 1) h9 _ hW) (fun z17 s16 hr => ?_)
        obtain ⟨s16v, z17r, hW⟩ := hr
        obtain ⟨h18, hW⟩ := hW
        refine ir_sub (pc' := 108) rfl rfl h18.1 h18.2 ?_
        refine ir_k (pc' := 109) (v := (0, 1)) rfl rfl rfl (fun _ => rfl) ?_
        have J220 : ∀ v219 : Int, iR v219 → (((fun b => I29 b ∧ r29 b < r29 t29) (v219, (l5 + 1), s16))) → ir gG rm_P L ys (d + 7) rm_p_X10_addRoot (119, [(0, (2, ((582 : Nat) : Int))), (1, (0, l1)), (5, (0, (l5 + 1))), (6, (0, l6))], [(0, v219)], s16) (fun r : im_Re => r.1 = none ∧ (vI r.2 ∧ Q r.2)) := by
          intro v219 v219r hW
          refine ir_s (pc' := 121) rfl rfl rfl rfl rfl rfl ?_
          refine ir_goto (pc' := 29) rfl rfl ?_
          refine ir_w [(0, (2, ((582 : Nat) : Int))), (1, (0, l1)), (4, (0, v219)), (5, (0, (l5 + 1))), (6, (0, l6))] ⟨rfl, rfl, rfl, rfl, rfl, trivial⟩ ?_
          exact ih29 v219 v219r (l5 + 1) h9 s16 s16v hW.1 (Nat.lt_of_lt_of_le hW.2 (Nat.le_of_lt_succ hr29))
        refine ir_c_ne (pt := 117) (pc' := 112) rfl rfl rfl (fun c19 => ?_) (fun c19 => ?_)
        · refine ir_l (pc' := 119) rfl rfl rfl rfl rfl rfl ?_
          refine ir_w [(0, (2, ((582 : Nat) : Int))), (1, (0, l1)), (5, (0, (l5 + 1))), (6, (0, l6))] ⟨rfl, rfl, rfl, rfl, trivial⟩ ?_
          exact J220 z8 z8r (hW _ (by rw [if_pos c19]))
        · refine ir_l (pc' := 114) rfl rfl rfl rfl rfl rfl ?_
          refine ir_goto (pc' := 119) rfl rfl ?_
          refine ir_w [(0, (2, ((582 : Nat) : Int))), (1, (0, l1)), (5, (0, (l5 + 1))), (6, (0, l6))] ⟨rfl, rfl, rfl, rfl, trivial⟩ ?_
          exact J220 z13 z13r (hW _ (by rw [if_neg (by omega)]))
      unfold W_addRoot_29 at hW
      refine ir_l (pc' := 31) rfl rfl rfl rfl rfl rfl ?_
      refine ir_z_lt (pt := 49) (pc' := 34) rfl rfl rfl (fun c221 => ?_) (fun c221 => ?_)
      · have hW := hW.1 c221
        refine ir_w [(0, (2, ((582 : Nat) : Int))), (1, (0, l1)), (4, (0, l4)), (5, (0, l5)), (6, (0, l6))] ⟨rfl, rfl, rfl, rfl, rfl, trivial⟩ ?_
        exact J49 l4 l4r l5 l5r s hv hW
      · have hW := hW.2 c221
        refine ir_l (pc' := 35) rfl rfl rfl rfl rfl rfl ?_
        refine ir_l (pc' := 36) rfl rfl rfl rfl rfl rfl ?_
        refine ir_l (pc' := 38) rfl rfl rfl rfl rfl rfl ?_
        refine ir_cVI (pc' := 41) rfl rfl rfl rfl rfl (Nat.le_of_ble_eq_true rfl) oo_X10_powerOfTwo vg_582 (w_powerOfTwo L ys (d + 3) s hv l5 l5r _ hW) (fun z223 s222 hr => ?_)
        obtain ⟨s222v, z223r, hW⟩ := hr
        refine ir_l (pc' := 43) rfl rfl rfl rfl rfl rfl ?_
        refine ir_cVI (pc' := 46) rfl rfl rfl rfl rfl (Nat.le_of_ble_eq_true rfl) oo_X10_weigh vg_582 (w_weigh L ys (d + 5) s222 s222v z223 z223r l6 l6r _ hW) (fun z225 s224 hr => ?_)
        obtain ⟨s224v, z225r, hW⟩ := hr
        refine ir_z_gt (pt := 124) (pc' := 49) rfl rfl rfl (fun c226 => ?_) (fun c226 => ?_)
        · have hW := hW.1 c226
          obtain ⟨h229, hW⟩ := hW
          refine ir_l (pc' := 125) rfl rfl rfl rfl rfl rfl ?_
          refine ir_vgi (pc' := 128) rfl rfl rfl rfl rfl s224v (fun r227 => ?_)
          refine ir_s (pc' := 130) rfl rfl rfl rfl rfl rfl ?_
          refine ir_l (pc' := 131) rfl rfl rfl rfl rfl rfl ?_
          refine ir_x (pc' := 132) rfl rfl rfl (fun _ => rfl) ?_
          refine ir_vgi (pc' := 135) rfl rfl rfl rfl rfl s224v (fun r228 => ?_)
          refine ir_k (pc' := 136) (v := (0, 1)) rfl rfl rfl (fun _ => rfl) ?_
          refine ir_add (pc' := 137) rfl rfl h229.1 h229.2 ?_
          refine ir_vpi (pc' := 140) rfl rfl rfl rfl rfl rfl rfl s224v h229 (fun s230 s230e s230v => ?_)
          have hW := hW s230 s230e
          obtain ⟨h231, hW⟩ := hW
          refine ir_l (pc' := 141) rfl rfl rfl rfl rfl rfl ?_
          refine ir_vgr (pc' := 144) (c := 607) rfl rfl rfl rfl rfl s230v ?_
          refine ir_l (pc' := 146) rfl rfl rfl rfl rfl rfl ?_
          refine ir_l (pc' := 147) rfl rfl rfl rfl rfl rfl ?_
          refine ir_vis (pc' := 148) rfl rfl vg_607 rfl (Nat.le_of_ble_eq_true rfl) s230v rfl h231 l1r (fun s232 s232e s232v => ?_)
          have hW := hW s232 s232e
          obtain ⟨h233, hW⟩ := hW
          refine ir_l (pc' := 149) rfl rfl rfl rfl rfl rfl ?_
          refine ir_vgr (pc' := 152) (c := 609) rfl rfl rfl rfl rfl s232v ?_
          refine ir_l (pc' := 154) rfl rfl rfl rfl rfl rfl ?_
          refine ir_k (pc' := 155) (v := (1, 0)) rfl rfl rfl (fun _ => rfl) ?_
          refine ir_vls (pc' := 156) rfl rfl vg_609 rfl (Nat.le_of_ble_eq_true rfl) s232v rfl h233 (⟨by decide, by decide⟩ : lR 0) (fun s234 s234e s234v => ?_)
          have hW := hW s234 s234e
          refine ir_l (pc' := 157) rfl rfl rfl rfl rfl rfl ?_
          refine ir_vgr (pc' := 160) (c := 611) rfl rfl rfl rfl rfl s234v ?_
          refine ir_l (pc' := 162) rfl rfl rfl rfl rfl rfl ?_
          refine ir_l (pc' := 163) rfl rfl rfl rfl rfl rfl ?_
          refine ir_l (pc' := 165) rfl rfl rfl rfl rfl rfl ?_
          refine ir_cVI (pc' := 168) rfl rfl rfl rfl rfl (Nat.le_of_ble_eq_true rfl) oo_X10_reserve vg_582 (w_reserve L ys (d + 4) s234 s234v l4 l4r _ hW) (fun z236 s235 hr => ?_)
          obtain ⟨s235v, z236r, hW⟩ := hr
          obtain ⟨h237, hW⟩ := hW
          refine ir_vis (pc' := 169) rfl rfl vg_611 rfl (Nat.le_of_ble_eq_true rfl) s235v rfl h237 z236r (fun s238 s238e s238v => ?_)
          have hW := hW s238 s238e
          obtain ⟨h239, hW⟩ := hW
          refine ir_l (pc' := 170) rfl rfl rfl rfl rfl rfl ?_
          refine ir_vgr (pc' := 173) (c := 612) rfl rfl rfl rfl rfl s238v ?_
          refine ir_l (pc' := 175) rfl rfl rfl rfl rfl rfl ?_
          refine ir_l (pc' := 177) rfl rfl rfl rfl rfl rfl ?_
          refine ir_vis (pc' := 178) rfl rfl vg_612 rfl (Nat.le_of_ble_eq_true rfl) s238v rfl h239 l5r (fun s240 s240e s240v => ?_)
          have hW := hW s240 s240e
          refine ir_l (pc' := 179) rfl rfl rfl rfl rfl rfl ?_
          refine ir_l (pc' := 181) rfl rfl rfl rfl rfl rfl ?_
          refine ir_cVI (pc' := 184) rfl rfl rfl rfl rfl (Nat.le_of_ble_eq_true rfl) oo_X10_powerOfTwo vg_582 (w_powerOfTwo L ys (d + 3) s240 s240v l5 l5r _ hW) (fun z242 s241 hr => ?_)
          obtain ⟨s241v, z242r, hW⟩ := hr
          refine ir_s (pc' := 186) rfl rfl rfl rfl rfl rfl ?_
          refine ir_l (pc' := 187) rfl rfl rfl rfl rfl rfl ?_
          refine ir_l (pc' := 188) rfl rfl rfl rfl rfl rfl ?_
          refine ir_l (pc' := 189) rfl rfl rfl rfl rfl rfl ?_
          refine ir_l (pc' := 191) rfl rfl rfl rfl rfl rfl ?_
          refine ir_l (pc' := 192) rfl rfl rfl rfl rfl rfl ?_
          refine ir_k (pc' := 193) (v := (1, 1)) rfl rfl rfl (fun _ => rfl) ?_
          refine ir_cVI (pc' := 196) rfl rfl rfl rfl rfl (Nat.le_of_ble_eq_true rfl) oo_X10_whole vg_582 (w_whole L ys (d + 6) s241 s241v 1 (⟨by decide, by decide⟩ : lR 1) _ hW) (fun z244 s243 hr => ?_)
          obtain ⟨s243v, z244r, hW⟩ := hr
          refine ir_cVI (pc' := 199) rfl rfl rfl rfl rfl (Nat.le_of_ble_eq_true rfl) oo_X10_plus vg_582 (w_plus L ys (d + 3) s243 s243v l4 l4r z244 z244r _ hW) (fun z246 s245 hr => ?_)
          obtain ⟨s245v, z246r, hW⟩ := hr
          refine ir_l (pc' := 201) rfl rfl rfl rfl rfl rfl ?_
          refine ir_cVI (pc' := 204) rfl rfl rfl rfl rfl (Nat.le_of_ble_eq_true rfl) oo_X10_by vg_582 (w_by L ys (d + 5) s245 s245v z246 z246r l6 l6r _ hW) (fun z248 s247 hr => ?_)
          obtain ⟨s247v, z248r, hW⟩ := hr
          refine ir_l (pc' := 206) rfl rfl rfl rfl rfl rfl ?_
          refine ir_cVI (pc' := 209) rfl rfl rfl rfl rfl (Nat.le_of_ble_eq_true rfl) oo_X10_over vg_582 (w_over L ys (d + 1) s247 s247v z248 z248r z242 z242r _ hW) (fun z250 s249 hr => ?_)
          obtain ⟨s249v, z250r, hW⟩ := hr
          refine ir_s (pc' := 211) rfl rfl rfl rfl rfl rfl ?_
          refine ir_l (pc' := 212) rfl rfl rfl rfl rfl rfl ?_
          refine ir_l (pc' := 213) rfl rfl rfl rfl rfl rfl ?_
          refine ir_l (pc' := 215) rfl rfl rfl rfl rfl rfl ?_
          refine ir_l (pc' := 217) rfl rfl rfl rfl rfl rfl ?_
          refine ir_cVI (pc' := 220) rfl rfl rfl rfl rfl (Nat.le_of_ble_eq_true rfl) oo_X10_by vg_582 (w_by L ys (d + 5) s249 s249v z250 z250r z242 z242r _ hW) (fun z252 s251 hr => ?_)
          obtain ⟨s251v, z252r, hW⟩ := hr
          refine ir_l (pc' := 221) rfl rfl rfl rfl rfl rfl ?_
          refine ir_l (pc' := 223) rfl rfl rfl rfl rfl rfl ?_
          refine ir_l (pc' := 225) rfl rfl rfl rfl rfl rfl ?_
          refine ir_cVI (pc' := 228) rfl rfl rfl rfl rfl (Nat.le_of_ble_eq_true rfl) oo_X10_by vg_582 (w_by L ys (d + 5) s251 s251v l4 l4r l6 l6r _ hW) (fun z254 s253 hr => ?_)
          obtain ⟨s253v, z254r, hW⟩ := hr
          refine ir_cVI (pc' := 231) rfl rfl rfl rfl rfl (Nat.le_of_ble_eq_true rfl) oo_X10_compare vg_582 (w_compare L ys (d + 4) s253 s253v z252 z252r z254 z254r _ hW) (fun z256 s255 hr => ?_)
          obtain ⟨s255v, z256r, hW⟩ := hr
          have J458 : ∀ v457 : Int, zR v457 → (((v457 = 0 → (W_addRoot_312 s255 Q)) ∧ (¬ (v457 = 0) → ((0 ≤ l1 ∧ l1 < 200) ∧ (W_signAt2 (wga s255 602 l1) z250 l6 s255 (fun z463 s462 => ((¬ (z463 = 0) → (W_addRoot_312 s462 Q)) ∧ (z463 = 0 → (W_valueOf z250 s462 (fun z466 s465 => (W_valueOf l6 s465 (fun z468 s467 => (W_divisor z466 z468 s467 (fun z470 s469 => ((0 < z470) ∧ (0 ≤ (wgf s224 41) ∧ (wgf s224 41) < 90) ∧ (∀ s473, s473 = wpa s469 608 (wgf s224 41) (z466.tdiv z470) → ((0 < z470) ∧ (0 ≤ (wgf s224 41) ∧ (wgf s224 41) < 90) ∧ (∀ s476, s476 = wpa s473 609 (wgf s224 41) (z468.tdiv z470) → (W_addRoot_312 s476 Q))))))))))))))))))) → ir gG rm_P L ys (d + 7) rm_p_X10_addRoot (239, [(0, (2, ((582 : Nat) : Int))), (1, (0, l1)), (6, (0, l6)), (7, (0, (wgf s224 41))), (9, (0, z250))], [(0, v457)], s255) (fun r : im_Re => r.1 = none ∧ (vI r.2 ∧ Q r.2)) := by
            intro v457 v457r hW
            refine ir_s (pc' := 241) rfl rfl rfl rfl rfl rfl ?_
            refine ir_l (pc' := 243) rfl rfl rfl rfl rfl rfl ?_
            refine ir_z_eq (pt := 312) (pc' := 246) rfl rfl rfl (fun c459 => ?_) (fun c459 => ?_)
            · have hW := hW.1 c459
              refine ir_w [] trivial ?_
              exact J312 s255 s255v hW
            · have hW := hW.2 c459
              obtain ⟨h460, hW⟩ := hW
              refine ir_l (pc' := 247) rfl rfl rfl rfl rfl rfl ?_
              refine ir_l (pc' := 248) rfl rfl rfl rfl rfl rfl ?_
              refine ir_vgr (pc' := 251) (c := 602) rfl rfl rfl rfl rfl s255v ?_
              refine ir_l (pc' := 252) rfl rfl rfl rfl rfl rfl ?_
              refine ir_via (pc' := 253) rfl rfl vg_602 rfl (Nat.le_of_ble_eq_true rfl) s255v rfl h460 (fun r461 => ?_)
              refine ir_l (pc' := 255) rfl rfl rfl rfl rfl rfl ?_
              refine ir_l (pc' := 257) rfl rfl rfl rfl rfl rfl ?_
              refine ir_cVI (pc' := 260) rfl rfl rfl rfl rfl (Nat.le_of_ble_eq_true rfl) oo_X10_signAt2 vg_582 (w_signAt2 L ys (d + 2) s255 s255v (wga s255 602 l1) r461 z250 z250r l6 l6r _ hW) (fun z463 s462 hr => ?_)
              obtain ⟨s462v, z463r, hW⟩ := hr
              refine ir_z_ne (pt := 312) (pc' := 263) rfl rfl rfl (fun c464 => ?_) (fun c464 => ?_)
              · have hW := hW.1 c464
                refine ir_w [] trivial ?_
                exact J312 s462 s462v hW
              · have hW := hW.2 c464
                refine ir_l (pc' := 264) rfl rfl rfl rfl rfl rfl ?_
                refine ir_l (pc' := 266) rfl rfl rfl rfl rfl rfl ?_
                refine ir_cVI (pc' := 269) rfl rfl rfl rfl rfl (Nat.le_of_ble_eq_true rfl) oo_X10_valueOf vg_582 (w_valueOf L ys (d + 5) s462 s462v z250 z250r _ hW) (fun z466 s465 hr => ?_)
                obtain ⟨s465v, z466r, hW⟩ := hr
                refine ir_s2 (pc' := 271) rfl rfl rfl rfl rfl rfl ?_
                refine ir_l (pc' := 272) rfl rfl rfl rfl rfl rfl ?_
                refine ir_l (pc' := 274) rfl rfl rfl rfl rfl rfl ?_
                refine ir_cVI (pc' := 277) rfl rfl rfl rfl rfl (Nat.le_of_ble_eq_true rfl) oo_X10_valueOf vg_582 (w_valueOf L ys (d + 5) s465 s465v l6 l6r _ hW) (fun z468 s467 hr => ?_)
                obtain ⟨s467v, z468r, hW⟩ := hr
                refine ir_s2 (pc' := 279) rfl rfl rfl rfl rfl rfl ?_
                refine ir_l (pc' := 281) rfl rfl rfl rfl rfl rfl ?_
                refine ir_l (pc' := 283) rfl rfl rfl rfl rfl rfl ?_
                refine ir_cSI (pc' := 286) rfl rfl rfl rfl rfl rfl (Nat.le_of_ble_eq_true rfl) (w_divisor L ys (d + 6) s467 s467v z466 z466r z468 z468r _ hW) (fun z470 s469 hr => ?_)
                obtain ⟨s469v, z470r, hW⟩ := hr
                obtain ⟨h471, h472, hW⟩ := hW
                refine ir_s2 (pc' := 288) rfl rfl rfl rfl rfl rfl ?_
                refine ir_l (pc' := 289) rfl rfl rfl rfl rfl rfl ?_
                refine ir_vgr (pc' := 292) (c := 608) rfl rfl rfl rfl rfl s469v ?_
                refine ir_l (pc' := 294) rfl rfl rfl rfl rfl rfl ?_
                refine ir_l (pc' := 296) rfl rfl rfl rfl rfl rfl ?_
                refine ir_l (pc' := 298) rfl rfl rfl rfl rfl rfl ?_
                refine ir_ldiv (pc' := 299) rfl rfl z466r.1 z466r.2 h471 z470r.2 ?_
                refine ir_vls (pc' := 300) rfl rfl vg_608 rfl (Nat.le_of_ble_eq_true rfl) s469v rfl h472 (w_tdiv1 z466r h471 z470r) (fun s473 s473e s473v => ?_)
                have hW := hW s473 s473e
                obtain ⟨h474, h475, hW⟩ := hW
                refine ir_l (pc' := 301) rfl rfl rfl rfl rfl rfl ?_
                refine ir_vgr (pc' := 304) (c := 609) rfl rfl rfl rfl rfl s473v ?_
                refine ir_l (pc' := 306) rfl rfl rfl rfl rfl rfl ?_
                refine ir_l (pc' := 308) rfl rfl rfl rfl rfl rfl ?_
                refine ir_l (pc' := 310) rfl rfl rfl rfl rfl rfl ?_
                refine ir_ldiv (pc' := 311) rfl rfl z468r.1 z468r.2 h474 z470r.2 ?_
                refine ir_vls (pc' := 312) rfl rfl vg_609 rfl (Nat.le_of_ble_eq_true rfl) s473v rfl h475 (w_tdiv1 z468r h474 z470r) (fun s476 s476e s476v => ?_)
                have hW := hW s476 s476e
                refine ir_w [] trivial ?_
                exact J312 s476 s476v hW
          refine ir_z_le (pt := 238) (pc' := 234) rfl rfl rfl (fun c257 => ?_) (fun c257 => ?_)
          · refine ir_k (pc' := 239) (v := (0, 0)) rfl rfl rfl (fun _ => rfl) ?_
            refine ir_w [(0, (2, ((582 : Nat) : Int))), (1, (0, l1)), (6, (0, l6)), (7, (0, (wgf s224 41))), (9, (0, z250))] ⟨rfl, rfl, rfl, rfl, rfl, trivial⟩ ?_
            exact J458 0 (Or.inl rfl) (hW _ (by rw [if_pos c257]))
          · refine ir_k (pc' := 235) (v := (0, 1)) rfl rfl rfl (fun _ => rfl) ?_
            refine ir_goto (pc' := 239) rfl rfl ?_
            refine ir_w [(0, (2, ((582 : Nat) : Int))), (1, (0, l1)), (6, (0, l6)), (7, (0, (wgf s224 41))), (9, (0, z250))] ⟨rfl, rfl, rfl, rfl, rfl, trivial⟩ ?_
            exact J458 1 (Or.inr rfl) (hW _ (by rw [if_neg (fun z => c257 z)]))
        · have hW := hW.2 c226
          refine ir_w [(0, (2, ((582 : Nat) : Int))), (1, (0, l1)), (4, (0, l4)), (5, (0, l5)), (6, (0, l6))] ⟨rfl, rfl, rfl, rfl, rfl, trivial⟩ ?_
          exact J49 l4 l4r l5 l5r s224 s224v hW
  unfold W_addRoot at hW
  obtain ⟨h477, h480, hW⟩ := hW
  refine ir_l (pc' := 1) rfl rfl rfl rfl rfl rfl ?_
  refine ir_s (pc' := 3) rfl rfl rfl rfl rfl rfl ?_
  refine ir_l (pc' := 4) rfl rfl rfl rfl rfl rfl ?_
  refine ir_s (pc' := 6) rfl rfl rfl rfl rfl rfl ?_
  refine ir_l (pc' := 7) rfl rfl rfl rfl rfl rfl ?_
  refine ir_l (pc' := 8) rfl rfl rfl rfl rfl rfl ?_
  refine ir_vgr (pc' := 11) (c := 602) rfl rfl rfl rfl rfl hv ?_
  refine ir_l (pc' := 12) rfl rfl rfl rfl rfl rfl ?_
  refine ir_via (pc' := 13) rfl rfl vg_602 rfl (Nat.le_of_ble_eq_true rfl) hv rfl h477 (fun r478 => ?_)
  refine ir_l (pc' := 14) rfl rfl rfl rfl rfl rfl ?_
  refine ir_vgr (pc' := 17) (c := 598) rfl rfl rfl rfl rfl hv ?_
  refine ir_l (pc' := 18) rfl rfl rfl rfl rfl rfl ?_
  refine ir_vgr (pc' := 21) (c := 602) rfl rfl rfl rfl rfl hv ?_
  refine ir_l (pc' := 22) rfl rfl rfl rfl rfl rfl ?_
  refine ir_via (pc' := 23) rfl rfl vg_602 rfl (Nat.le_of_ble_eq_true rfl) hv rfl h477 (fun r479 => ?_)
  refine ir_via (pc' := 24) rfl rfl vg_598 rfl (Nat.le_of_ble_eq_true rfl) hv rfl h480 (fun r481 => ?_)
  refine ir_cVI (pc' := 27) rfl rfl rfl rfl rfl (Nat.le_of_ble_eq_true rfl) oo_X10_at vg_582 (w_at L ys (d + 6) s hv (wga s 602 l1) r478 (wga s 598 (wga s 602 l1)) r481 _ hW) (fun z483 s482 hr => ?_)
  obtain ⟨s482v, z483r, hW⟩ := hr
  refine ir_s (pc' := 29) rfl rfl rfl rfl rfl rfl ?_
  refine ir_w [(0, (2, ((582 : Nat) : Int))), (1, (0, l1)), (4, (0, l2)), (5, (0, l3)), (6, (0, z483))] ⟨rfl, rfl, rfl, rfl, rfl, trivial⟩ ?_
  obtain ⟨I9, r9, hI9, hB9⟩ := hW
  exact J29 l1 l1r z483 z483r I9 r9 hB9 _ l2 l2r l3 l3r s482 s482v hI9 (Nat.lt_succ_self _)
def W_refine_106 (l1 : Int) (l2 : Int) (k1 : Int) (s : im_S) (Q : im_S → Prop) : Prop := ((0 ≤ l1 ∧ l1 < 90) ∧ (W_copyTo k1 (wga s 611 l1) s (fun s3 => (∀ s5, s5 = wpf s3 24 l2 → (Q s5)))))
def W_refine (l1 : Int) (s : im_S) (Q : im_S → Prop) : Prop := ((0 ≤ l1 ∧ l1 < 90) ∧ (W_whole 2 s (fun z10 s9 => (W_by (wga s 611 l1) z10 s9 (fun z12 s11 => (W_whole 1 s11 (fun z14 s13 => (W_plus z12 z14 s13 (fun z16 s15 => ((0 ≤ l1 ∧ l1 < 90) ∧ (iR ((wga s15 612 l1) + 1)) ∧ (0 ≤ l1 ∧ l1 < 90) ∧ (∀ s21, s21 = wpa s15 612 l1 ((wga s15 612 l1) + 1) → ((0 ≤ l1 ∧ l1 < 90) ∧ (W_powerOfTwo (wga s21 612 l1) s21 (fun z26 s25 => (W_signAt2 (wga s21 610 l1) z16 z26 s25 (fun z28 s27 => ((0 ≤ l1 ∧ l1 < 90) ∧ (∀ v231 : Int, v231 = (if ¬ (z28 = (wga s27 613 l1)) then 0 else 1) → ((v231 = 0 → ((0 ≤ l1 ∧ l1 < 90) ∧ (W_whole 2 s27 (fun z237 s236 => (W_by (wga s27 611 l1) z237 s236 (fun z239 s238 => (W_refine_106 l1 (wgf s 24) z239 s238 Q))))))) ∧ (¬ (v231 = 0) → (W_refine_106 l1 (wgf s 24) z16 s27 Q)))))))))))))))))))))
set_option maxRecDepth 16384 in
theorem w_refine (L : Nat) (ys : Nat → Int32) (d : Nat) (s : im_S) (hv : vI s) (l1 : Int) (l1r : iR l1) (Q : im_S → Prop) (hW : W_refine l1 s Q) : icV gG rm_P L ys (d + 6) 85 [(2, ((582 : Nat) : Int)), (0, l1)] s (fun s9 => vI s9 ∧ Q s9) := by
  refine ic_startM (M := rm_p_X10_refine) om_X10_refine (Nat.le_of_ble_eq_true rfl) ?_
  refine ir_w [(0, (2, ((582 : Nat) : Int))), (1, (0, l1))] ⟨rfl, rfl, trivial⟩ ?_
  have J106 : ∀ (l1 : Int) (l1r : iR l1) (l2 : Int) (l2r : iR l2) (k1 : Int) (k1r : iR k1) (s : im_S) (hv : vI s), W_refine_106 l1 l2 k1 s Q → ir gG rm_P L ys (d + 5) rm_p_X10_refine (106, [(0, (2, ((582 : Nat) : Int))), (1, (0, l1)), (2, (0, l2))], [(0, k1), (2, ((582 : Nat) : Int))], s) (fun r : im_Re => r.1 = none ∧ (vI r.2 ∧ Q r.2)) := by
    intro l1 l1r l2 l2r k1 k1r s hv hW
    unfold W_refine_106 at hW
    obtain ⟨h1, hW⟩ := hW
    refine ir_l (pc' := 107) rfl rfl rfl rfl rfl rfl ?_
    refine ir_vgr (pc' := 110) (c := 611) rfl rfl rfl rfl rfl hv ?_
    refine ir_l (pc' := 111) rfl rfl rfl rfl rfl rfl ?_
    refine ir_via (pc' := 112) rfl rfl vg_611 rfl (Nat.le_of_ble_eq_true rfl) hv rfl h1 (fun r2 => ?_)
    refine ir_cVV (pc' := 115) rfl rfl rfl rfl rfl (Nat.le_of_ble_eq_true rfl) oo_X10_copyTo vg_582 (w_copyTo L ys (d + 3) s hv k1 k1r (wga s 611 l1) r2 _ hW) (fun s3 hr => ?_)
    obtain ⟨s3v, hW⟩ := hr
    refine ir_l (pc' := 116) rfl rfl rfl rfl rfl rfl ?_
    refine ir_l (pc' := 117) rfl rfl rfl rfl rfl rfl ?_
    refine ir_vpi (pc' := 120) rfl rfl rfl rfl rfl rfl rfl s3v l2r (fun s5 s5e s5v => ?_)
    have hW := hW s5 s5e
    exact ir_vret rfl rfl ⟨rfl, s5v, hW⟩
  unfold W_refine at hW
  obtain ⟨h7, hW⟩ := hW
  refine ir_l (pc' := 1) rfl rfl rfl rfl rfl rfl ?_
  refine ir_vgi (pc' := 4) rfl rfl rfl rfl rfl hv (fun r6 => ?_)
  refine ir_s (pc' := 5) rfl rfl rfl rfl rfl rfl ?_
  refine ir_l (pc' := 6) rfl rfl rfl rfl rfl rfl ?_
  refine ir_l (pc' := 7) rfl rfl rfl rfl rfl rfl ?_
  refine ir_l (pc' := 8) rfl rfl rfl rfl rfl rfl ?_
  refine ir_vgr (pc' := 11) (c := 611) rfl rfl rfl rfl rfl hv ?_
  refine ir_l (pc' := 12) rfl rfl rfl rfl rfl rfl ?_
  refine ir_via (pc' := 13) rfl rfl vg_611 rfl (Nat.le_of_ble_eq_true rfl) hv rfl h7 (fun r8 => ?_)
  refine ir_l (pc' := 14) rfl rfl rfl rfl rfl rfl ?_
  refine ir_k (pc' := 17) (v := (1, 2)) rfl rfl rfl (fun _ => rfl) ?_
  refine ir_cVI (pc' := 20) rfl rfl rfl rfl rfl (Nat.le_of_ble_eq_true rfl) oo_X10_whole vg_582 (w_whole L ys (d + 4) s hv 2 (⟨by decide, by decide⟩ : lR 2) _ hW) (fun z10 s9 hr => ?_)
  obtain ⟨s9v, z10r, hW⟩ := hr
  refine ir_cVI (pc' := 23) rfl rfl rfl rfl rfl (Nat.le_of_ble_eq_true rfl) oo_X10_by vg_582 (w_by L ys (d + 3) s9 s9v (wga s 611 l1) r8 z10 z10r _ hW) (fun z12 s11 hr => ?_)
  obtain ⟨s11v, z12r, hW⟩ := hr
  refine ir_l (pc' := 24) rfl rfl rfl rfl rfl rfl ?_
  refine ir_k (pc' := 25) (v := (1, 1)) rfl rfl rfl (fun _ => rfl) ?_
  refine ir_cVI (pc' := 28) rfl rfl rfl rfl rfl (Nat.le_of_ble_eq_true rfl) oo_X10_whole vg_582 (w_whole L ys (d + 4) s11 s11v 1 (⟨by decide, by decide⟩ : lR 1) _ hW) (fun z14 s13 hr => ?_)
  obtain ⟨s13v, z14r, hW⟩ := hr
  refine ir_cVI (pc' := 31) rfl rfl rfl rfl rfl (Nat.le_of_ble_eq_true rfl) oo_X10_plus vg_582 (w_plus L ys (d + 1) s13 s13v z12 z12r z14 z14r _ hW) (fun z16 s15 hr => ?_)
  obtain ⟨s15v, z16r, hW⟩ := hr
  obtain ⟨h17, h19, h20, hW⟩ := hW
  refine ir_s (pc' := 32) rfl rfl rfl rfl rfl rfl ?_
  refine ir_l (pc' := 33) rfl rfl rfl rfl rfl rfl ?_
  refine ir_vgr (pc' := 36) (c := 612) rfl rfl rfl rfl rfl s15v ?_
  refine ir_l (pc' := 37) rfl rfl rfl rfl rfl rfl ?_
  refine ir_x (pc' := 38) rfl rfl rfl (fun _ => rfl) ?_
  refine ir_via (pc' := 39) rfl rfl vg_612 rfl (Nat.le_of_ble_eq_true rfl) s15v rfl h17 (fun r18 => ?_)
  refine ir_k (pc' := 40) (v := (0, 1)) rfl rfl rfl (fun _ => rfl) ?_
  refine ir_add (pc' := 41) rfl rfl h19.1 h19.2 ?_
  refine ir_vis (pc' := 42) rfl rfl vg_612 rfl (Nat.le_of_ble_eq_true rfl) s15v rfl h20 h19 (fun s21 s21e s21v => ?_)
  have hW := hW s21 s21e
  obtain ⟨h22, hW⟩ := hW
  refine ir_l (pc' := 43) rfl rfl rfl rfl rfl rfl ?_
  refine ir_l (pc' := 44) rfl rfl rfl rfl rfl rfl ?_
  refine ir_vgr (pc' := 47) (c := 610) rfl rfl rfl rfl rfl s21v ?_
  refine ir_l (pc' := 48) rfl rfl rfl rfl rfl rfl ?_
  refine ir_via (pc' := 49) rfl rfl vg_610 rfl (Nat.le_of_ble_eq_true rfl) s21v rfl h22 (fun r23 => ?_)
  refine ir_l (pc' := 50) rfl rfl rfl rfl rfl rfl ?_
  refine ir_l (pc' := 51) rfl rfl rfl rfl rfl rfl ?_
  refine ir_l (pc' := 52) rfl rfl rfl rfl rfl rfl ?_
  refine ir_vgr (pc' := 55) (c := 612) rfl rfl rfl rfl rfl s21v ?_
  refine ir_l (pc' := 56) rfl rfl rfl rfl rfl rfl ?_
  refine ir_via (pc' := 57) rfl rfl vg_612 rfl (Nat.le_of_ble_eq_true rfl) s21v rfl h22 (fun r24 => ?_)
  refine ir_cVI (pc' := 60) rfl rfl rfl rfl rfl (Nat.le_of_ble_eq_true rfl) oo_X10_powerOfTwo vg_582 (w_powerOfTwo L ys (d + 1) s21 s21v (wga s21 612 l1) r24 _ hW) (fun z26 s25 hr => ?_)
  obtain ⟨s25v, z26r, hW⟩ := hr
  refine ir_cVI (pc' := 63) rfl rfl rfl rfl rfl (Nat.le_of_ble_eq_true rfl) oo_X10_signAt2 vg_582 (w_signAt2 L ys d s25 s25v (wga s21 610 l1) r23 z16 z16r z26 z26r _ hW) (fun z28 s27 hr => ?_)
  obtain ⟨s27v, z28r, hW⟩ := hr
  obtain ⟨h29, hW⟩ := hW
  refine ir_l (pc' := 64) rfl rfl rfl rfl rfl rfl ?_
  refine ir_vgr (pc' := 67) (c := 613) rfl rfl rfl rfl rfl s27v ?_
  refine ir_l (pc' := 68) rfl rfl rfl rfl rfl rfl ?_
  refine ir_via (pc' := 69) rfl rfl vg_613 rfl (Nat.le_of_ble_eq_true rfl) s27v rfl h29 (fun r30 => ?_)
  have J232 : ∀ v231 : Int, zR v231 → (((v231 = 0 → ((0 ≤ l1 ∧ l1 < 90) ∧ (W_whole 2 s27 (fun z237 s236 => (W_by (wga s27 611 l1) z237 s236 (fun z239 s238 => (W_refine_106 l1 (wgf s 24) z239 s238 Q))))))) ∧ (¬ (v231 = 0) → (W_refine_106 l1 (wgf s 24) z16 s27 Q)))) → ir gG rm_P L ys (d + 5) rm_p_X10_refine (77, [(0, (2, ((582 : Nat) : Int))), (1, (0, l1)), (2, (0, (wgf s 24))), (3, (0, z16))], [(0, v231)], s27) (fun r : im_Re => r.1 = none ∧ (vI r.2 ∧ Q r.2)) := by
    intro v231 v231r hW
    refine ir_s (pc' := 79) rfl rfl rfl rfl rfl rfl ?_
    refine ir_l (pc' := 80) rfl rfl rfl rfl rfl rfl ?_
    refine ir_l (pc' := 82) rfl rfl rfl rfl rfl rfl ?_
    refine ir_z_eq (pt := 89) (pc' := 85) rfl rfl rfl (fun c233 => ?_) (fun c233 => ?_)
    · have hW := hW.1 c233
      obtain ⟨h234, hW⟩ := hW
      refine ir_l (pc' := 90) rfl rfl rfl rfl rfl rfl ?_
      refine ir_l (pc' := 91) rfl rfl rfl rfl rfl rfl ?_
      refine ir_vgr (pc' := 94) (c := 611) rfl rfl rfl rfl rfl s27v ?_
      refine ir_l (pc' := 95) rfl rfl rfl rfl rfl rfl ?_
      refine ir_via (pc' := 96) rfl rfl vg_611 rfl (Nat.le_of_ble_eq_true rfl) s27v rfl h234 (fun r235 => ?_)
      refine ir_l (pc' := 97) rfl rfl rfl rfl rfl rfl ?_
      refine ir_k (pc' := 100) (v := (1, 2)) rfl rfl rfl (fun _ => rfl) ?_
      refine ir_cVI (pc' := 103) rfl rfl rfl rfl rfl (Nat.le_of_ble_eq_true rfl) oo_X10_whole vg_582 (w_whole L ys (d + 4) s27 s27v 2 (⟨by decide, by decide⟩ : lR 2) _ hW) (fun z237 s236 hr => ?_)
      obtain ⟨s236v, z237r, hW⟩ := hr
      refine ir_cVI (pc' := 106) rfl rfl rfl rfl rfl (Nat.le_of_ble_eq_true rfl) oo_X10_by vg_582 (w_by L ys (d + 3) s236 s236v (wga s27 611 l1) r235 z237 z237r _ hW) (fun z239 s238 hr => ?_)
      obtain ⟨s238v, z239r, hW⟩ := hr
      refine ir_w [(0, (2, ((582 : Nat) : Int))), (1, (0, l1)), (2, (0, (wgf s 24)))] ⟨rfl, rfl, rfl, trivial⟩ ?_
      exact J106 l1 l1r (wgf s 24) r6 z239 z239r s238 s238v hW
    · have hW := hW.2 c233
      refine ir_l (pc' := 86) rfl rfl rfl rfl rfl rfl ?_
      refine ir_goto (pc' := 106) rfl rfl ?_
      refine ir_w [(0, (2, ((582 : Nat) : Int))), (1, (0, l1)), (2, (0, (wgf s 24)))] ⟨rfl, rfl, rfl, trivial⟩ ?_
      exact J106 l1 l1r (wgf s 24) r6 z16 z16r s27 s27v hW
  refine ir_c_ne (pt := 76) (pc' := 72) rfl rfl rfl (fun c31 => ?_) (fun c31 => ?_)
  · refine ir_k (pc' := 77) (v := (0, 0)) rfl rfl rfl (fun _ => rfl) ?_
    refine ir_w [(0, (2, ((582 : Nat) : Int))), (1, (0, l1)), (2, (0, (wgf s 24))), (3, (0, z16))] ⟨rfl, rfl, rfl, rfl, trivial⟩ ?_
    exact J232 0 (Or.inl rfl) (hW _ (by rw [if_pos c31]))
  · refine ir_k (pc' := 73) (v := (0, 1)) rfl rfl rfl (fun _ => rfl) ?_
    refine ir_goto (pc' := 77) rfl rfl ?_
    refine ir_w [(0, (2, ((582 : Nat) : Int))), (1, (0, l1)), (2, (0, (wgf s 24))), (3, (0, z16))] ⟨rfl, rfl, rfl, rfl, trivial⟩ ?_
    exact J232 1 (Or.inr rfl) (hW _ (by rw [if_neg (by omega)]))
