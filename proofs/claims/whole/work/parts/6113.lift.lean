/-! THE REFERENCE LIFTED, by program -/
def W_readSum_174 (s : im_S) (Q : im_S → Prop) : Prop := (Q s)
def W_readSum_171 (K13 : Int × Int × im_S → Prop) (l1 : Int) (l2 : Int) (s : im_S) (Q : im_S → Prop) : Prop := (K13 (l1, l2, s))
def W_readSum_169 (K13 : Int × Int × im_S → Prop) (l1 : Int) (s : im_S) (Q : im_S → Prop) : Prop := (W_readSum_171 K13 l1 1 s Q)
def W_readSum_147 (K13 : Int × Int × im_S → Prop) (l1 : Int) (l2 : Int) (l3 : Int) (s : im_S) (Q : im_S → Prop) : Prop := (W_good s (fun z2 s1 => ((z2 = 0 → (W_readSum_169 K13 l1 s1 Q)) ∧ (¬ (z2 = 0) → (((wgf s1 21) ≤ 0 → (W_readSum_169 K13 l1 s1 Q)) ∧ (¬ ((wgf s1 21) ≤ 0) → (W_endBracket l3 s1 (fun s6 => (W_readSum_171 K13 l1 l2 s6 Q)))))))))
def W_readSum_99 (K13 : Int × Int × im_S → Prop) (l2 : Int) (l3 : Int) (s : im_S) (Q : im_S → Prop) : Prop := (∀ v209 : Int, v209 = (if ¬ (l3 = 43) then (-1) else 1) → ((0 ≤ (wgf s 21) ∧ (wgf s 21) < 12) ∧ (∀ s212, s212 = wpa s 593 (wgf s 21) v209 → ((0 ≤ (wgf s212 21) ∧ (wgf s212 21) < 12) ∧ (∀ s216, s216 = wpa s212 594 (wgf s212 21) (wgf s212 4) → ((iR ((wgf s216 4) + 1)) ∧ (∀ s219, s219 = wpf s216 4 ((wgf s216 4) + 1) → (W_readSum_171 K13 1 l2 s219 Q))))))))
def W_readSum_13 (K13 : Int × Int × im_S → Prop) (l1 : Int) (l2 : Int) (s : im_S) (Q : im_S → Prop) : Prop := ((¬ (l2 = 0) → (W_readSum_174 s Q)) ∧ (l2 = 0 → (W_good s (fun z222 s221 => ((z222 = 0 → (W_readSum_174 s221 Q)) ∧ (¬ (z222 = 0) → (W_peek s221 (fun z225 s224 => ((l1 = 0 → ((¬ (z225 = 42) → (W_endTerm s224 (fun s228 => (W_good s228 (fun z231 s230 => ((z231 = 0 → (W_readSum_147 K13 l1 l2 z225 s230 Q)) ∧ (¬ (z231 = 0) → ((z225 = 43 → (W_readSum_99 K13 l2 z225 s230 Q)) ∧ (¬ (z225 = 43) → ((¬ (z225 = 45) → (W_readSum_147 K13 l1 l2 z225 s230 Q)) ∧ (z225 = 45 → (W_readSum_99 K13 l2 z225 s230 Q)))))))))))) ∧ (z225 = 42 → ((0 ≤ (wgf s224 21) ∧ (wgf s224 21) < 12) ∧ (∀ s238, s238 = wpa s224 595 (wgf s224 21) (wgf s224 4) → ((iR ((wgf s238 4) + 1)) ∧ (∀ s241, s241 = wpf s238 4 ((wgf s238 4) + 1) → (W_readSum_171 K13 1 l2 s241 Q)))))))) ∧ (¬ (l1 = 0) → (W_takeBase z225 s224 (fun z243 s242 => (W_readSum_171 K13 z243 l2 s242 Q)))))))))))))
def W_readSum (s : im_S) (Q : im_S → Prop) : Prop := (∀ s244, s244 = wpf s 21 0 → (W_beginSum s244 (fun s245 => (wloop (fun (K : Int × Int × im_S → Prop) (a : Int × Int × im_S) => W_readSum_13 K a.1 a.2.1 a.2.2 Q) (1, 0, s245)))))
set_option maxRecDepth 16384 in
theorem w_readSum (L : Nat) (ys : Nat → Int32) (d : Nat) (s : im_S) (hv : vI s) (Q : im_S → Prop) (hW : W_readSum s Q) : icV gG rm_P L ys (d + 6) 83 [(2, ((582 : Nat) : Int))] s (fun s9 => vI s9 ∧ Q s9) := by
  refine ic_startM (M := rm_p_X10_readSum) om_X10_readSum (Nat.le_of_ble_eq_true rfl) ?_
  refine ir_w [(0, (2, ((582 : Nat) : Int)))] ⟨rfl, trivial⟩ ?_
  have J174 : ∀ (s : im_S) (hv : vI s), W_readSum_174 s Q → ir gG rm_P L ys (d + 5) rm_p_X10_readSum (174, [], [], s) (fun r : im_Re => r.1 = none ∧ (vI r.2 ∧ Q r.2)) := by
    intro s hv hW
    unfold W_readSum_174 at hW
    exact ir_vret rfl rfl ⟨rfl, hv, hW⟩
  have J13 : ∀ (I13 : Int × Int × im_S → Prop) (r13 : Int × Int × im_S → Nat) (hB13 : ∀ a : Int × Int × im_S, I13 a → W_readSum_13 (fun b => I13 b ∧ r13 b < r13 a) a.1 a.2.1 a.2.2 Q), ∀ n13 : Nat, ∀ (l1 : Int) (l1r : iR l1) (l2 : Int) (l2r : iR l2) (s : im_S) (hv : vI s), I13 (l1, l2, s) → r13 (l1, l2, s) < n13 → ir gG rm_P L ys (d + 5) rm_p_X10_readSum (13, [(0, (2, ((582 : Nat) : Int))), (1, (0, l1)), (2, (0, l2))], [], s) (fun r : im_Re => r.1 = none ∧ (vI r.2 ∧ Q r.2)) := by
    intro I13 r13 hB13 n13
    induction n13 with
    | zero => intro l1 l1r l2 l2r s hv hI hr; exact absurd hr (Nat.not_lt_zero _)
    | succ n13 ih13 =>
      intro l1 l1r l2 l2r s hv hI hr13
      obtain ⟨t13, ht13⟩ : ∃ t13 : Int × Int × im_S, t13 = (l1, l2, s) := ⟨_, rfl⟩
      rw [← ht13] at hr13
      have hW : W_readSum_13 (fun b => I13 b ∧ r13 b < r13 t13) l1 l2 s Q := by have z := hB13 (l1, l2, s) hI; rw [ht13]; exact z
      have J171 : ∀ (l1 : Int) (l1r : iR l1) (l2 : Int) (l2r : iR l2) (s : im_S) (hv : vI s), W_readSum_171 (fun b => I13 b ∧ r13 b < r13 t13) l1 l2 s Q → ir gG rm_P L ys (d + 5) rm_p_X10_readSum (171, [(0, (2, ((582 : Nat) : Int))), (1, (0, l1)), (2, (0, l2))], [], s) (fun r : im_Re => r.1 = none ∧ (vI r.2 ∧ Q r.2)) := by
        intro l1 l1r l2 l2r s hv hW
        unfold W_readSum_171 at hW
        refine ir_goto (pc' := 13) rfl rfl ?_
        refine ir_w [(0, (2, ((582 : Nat) : Int))), (1, (0, l1)), (2, (0, l2))] ⟨rfl, rfl, rfl, trivial⟩ ?_
        exact ih13 l1 l1r l2 l2r s hv hW.1 (Nat.lt_of_lt_of_le hW.2 (Nat.le_of_lt_succ hr13))
      have J169 : ∀ (l1 : Int) (l1r : iR l1) (s : im_S) (hv : vI s), W_readSum_169 (fun b => I13 b ∧ r13 b < r13 t13) l1 s Q → ir gG rm_P L ys (d + 5) rm_p_X10_readSum (169, [(0, (2, ((582 : Nat) : Int))), (1, (0, l1))], [], s) (fun r : im_Re => r.1 = none ∧ (vI r.2 ∧ Q r.2)) := by
        intro l1 l1r s hv hW
        unfold W_readSum_169 at hW
        refine ir_k (pc' := 170) (v := (0, 1)) rfl rfl rfl (fun _ => rfl) ?_
        refine ir_s (pc' := 171) rfl rfl rfl rfl rfl rfl ?_
        refine ir_w [(0, (2, ((582 : Nat) : Int))), (1, (0, l1)), (2, (0, 1))] ⟨rfl, rfl, rfl, trivial⟩ ?_
        exact J171 l1 l1r 1 (zR_i (Or.inr rfl)) s hv hW
      have J147 : ∀ (l1 : Int) (l1r : iR l1) (l2 : Int) (l2r : iR l2) (l3 : Int) (l3r : iR l3) (s : im_S) (hv : vI s), W_readSum_147 (fun b => I13 b ∧ r13 b < r13 t13) l1 l2 l3 s Q → ir gG rm_P L ys (d + 5) rm_p_X10_readSum (147, [(0, (2, ((582 : Nat) : Int))), (1, (0, l1)), (2, (0, l2)), (3, (0, l3))], [], s) (fun r : im_Re => r.1 = none ∧ (vI r.2 ∧ Q r.2)) := by
        intro l1 l1r l2 l2r l3 l3r s hv hW
        unfold W_readSum_147 at hW
        refine ir_l (pc' := 148) rfl rfl rfl rfl rfl rfl ?_
        refine ir_cVI (pc' := 151) rfl rfl rfl rfl rfl (Nat.le_of_ble_eq_true rfl) oo_X10_good vg_582 (w_good L ys (d + 4) s hv  _ hW) (fun z2 s1 hr => ?_)
        obtain ⟨s1v, z2r, hW⟩ := hr
        refine ir_z_eq (pt := 169) (pc' := 154) rfl rfl rfl (fun c3 => ?_) (fun c3 => ?_)
        · have hW := hW.1 c3
          refine ir_w [(0, (2, ((582 : Nat) : Int))), (1, (0, l1))] ⟨rfl, rfl, trivial⟩ ?_
          exact J169 l1 l1r s1 s1v hW
        · have hW := hW.2 c3
          refine ir_l (pc' := 155) rfl rfl rfl rfl rfl rfl ?_
          refine ir_vgi (pc' := 158) rfl rfl rfl rfl rfl s1v (fun r4 => ?_)
          refine ir_z_le (pt := 169) (pc' := 161) rfl rfl rfl (fun c5 => ?_) (fun c5 => ?_)
          · have hW := hW.1 c5
            refine ir_w [(0, (2, ((582 : Nat) : Int))), (1, (0, l1))] ⟨rfl, rfl, trivial⟩ ?_
            exact J169 l1 l1r s1 s1v hW
          · have hW := hW.2 c5
            refine ir_l (pc' := 162) rfl rfl rfl rfl rfl rfl ?_
            refine ir_l (pc' := 163) rfl rfl rfl rfl rfl rfl ?_
            refine ir_cVV (pc' := 166) rfl rfl rfl rfl rfl (Nat.le_of_ble_eq_true rfl) oo_X10_endBracket vg_582 (w_endBracket L ys d s1 s1v l3 l3r _ hW) (fun s6 hr => ?_)
            obtain ⟨s6v, hW⟩ := hr
            refine ir_goto (pc' := 171) rfl rfl ?_
            refine ir_w [(0, (2, ((582 : Nat) : Int))), (1, (0, l1)), (2, (0, l2))] ⟨rfl, rfl, rfl, trivial⟩ ?_
            exact J171 l1 l1r l2 l2r s6 s6v hW
      have J99 : ∀ (l2 : Int) (l2r : iR l2) (l3 : Int) (l3r : iR l3) (s : im_S) (hv : vI s), W_readSum_99 (fun b => I13 b ∧ r13 b < r13 t13) l2 l3 s Q → ir gG rm_P L ys (d + 5) rm_p_X10_readSum (99, [(0, (2, ((582 : Nat) : Int))), (2, (0, l2)), (3, (0, l3))], [], s) (fun r : im_Re => r.1 = none ∧ (vI r.2 ∧ Q r.2)) := by
        intro l2 l2r l3 l3r s hv hW
        unfold W_readSum_99 at hW
        refine ir_l (pc' := 100) rfl rfl rfl rfl rfl rfl ?_
        refine ir_vgr (pc' := 103) (c := 593) rfl rfl rfl rfl rfl hv ?_
        refine ir_l (pc' := 104) rfl rfl rfl rfl rfl rfl ?_
        refine ir_vgi (pc' := 107) rfl rfl rfl rfl rfl hv (fun r8 => ?_)
        refine ir_l (pc' := 108) rfl rfl rfl rfl rfl rfl ?_
        refine ir_k (pc' := 110) (v := (0, 43)) rfl rfl rfl (fun _ => rfl) ?_
        have J210 : ∀ v209 : Int, iR v209 → (((0 ≤ (wgf s 21) ∧ (wgf s 21) < 12) ∧ (∀ s212, s212 = wpa s 593 (wgf s 21) v209 → ((0 ≤ (wgf s212 21) ∧ (wgf s212 21) < 12) ∧ (∀ s216, s216 = wpa s212 594 (wgf s212 21) (wgf s212 4) → ((iR ((wgf s216 4) + 1)) ∧ (∀ s219, s219 = wpf s216 4 ((wgf s216 4) + 1) → (W_readSum_171 (fun b => I13 b ∧ r13 b < r13 t13) 1 l2 s219 Q)))))))) → ir gG rm_P L ys (d + 5) rm_p_X10_readSum (118, [(0, (2, ((582 : Nat) : Int))), (2, (0, l2))], [(0, v209), (0, (wgf s 21)), (2, ((593 : Nat) : Int))], s) (fun r : im_Re => r.1 = none ∧ (vI r.2 ∧ Q r.2)) := by
          intro v209 v209r hW
          obtain ⟨h211, hW⟩ := hW
          refine ir_vis (pc' := 119) rfl rfl vg_593 rfl (Nat.le_of_ble_eq_true rfl) hv rfl h211 v209r (fun s212 s212e s212v => ?_)
          have hW := hW s212 s212e
          obtain ⟨h215, hW⟩ := hW
          refine ir_l (pc' := 120) rfl rfl rfl rfl rfl rfl ?_
          refine ir_vgr (pc' := 123) (c := 594) rfl rfl rfl rfl rfl s212v ?_
          refine ir_l (pc' := 124) rfl rfl rfl rfl rfl rfl ?_
          refine ir_vgi (pc' := 127) rfl rfl rfl rfl rfl s212v (fun r213 => ?_)
          refine ir_l (pc' := 128) rfl rfl rfl rfl rfl rfl ?_
          refine ir_vgi (pc' := 131) rfl rfl rfl rfl rfl s212v (fun r214 => ?_)
          refine ir_vis (pc' := 132) rfl rfl vg_594 rfl (Nat.le_of_ble_eq_true rfl) s212v rfl h215 r214 (fun s216 s216e s216v => ?_)
          have hW := hW s216 s216e
          obtain ⟨h218, hW⟩ := hW
          refine ir_l (pc' := 133) rfl rfl rfl rfl rfl rfl ?_
          refine ir_x (pc' := 134) rfl rfl rfl (fun _ => rfl) ?_
          refine ir_vgi (pc' := 137) rfl rfl rfl rfl rfl s216v (fun r217 => ?_)
          refine ir_k (pc' := 138) (v := (0, 1)) rfl rfl rfl (fun _ => rfl) ?_
          refine ir_add (pc' := 139) rfl rfl h218.1 h218.2 ?_
          refine ir_vpi (pc' := 142) rfl rfl rfl rfl rfl rfl rfl s216v h218 (fun s219 s219e s219v => ?_)
          have hW := hW s219 s219e
          refine ir_k (pc' := 143) (v := (0, 1)) rfl rfl rfl (fun _ => rfl) ?_
          refine ir_s (pc' := 144) rfl rfl rfl rfl rfl rfl ?_
          refine ir_goto (pc' := 171) rfl rfl ?_
          refine ir_w [(0, (2, ((582 : Nat) : Int))), (1, (0, 1)), (2, (0, l2))] ⟨rfl, rfl, rfl, trivial⟩ ?_
          exact J171 1 (zR_i (Or.inr rfl)) l2 l2r s219 s219v hW
        refine ir_c_ne (pt := 117) (pc' := 113) rfl rfl rfl (fun c9 => ?_) (fun c9 => ?_)
        · refine ir_k (pc' := 118) (v := (0, (-1))) rfl rfl rfl (fun _ => rfl) ?_
          refine ir_w [(0, (2, ((582 : Nat) : Int))), (2, (0, l2))] ⟨rfl, rfl, trivial⟩ ?_
          exact J210 (-1) (⟨by decide, by decide⟩ : iR (-1)) (hW _ (by rw [if_pos c9]))
        · refine ir_k (pc' := 114) (v := (0, 1)) rfl rfl rfl (fun _ => rfl) ?_
          refine ir_goto (pc' := 118) rfl rfl ?_
          refine ir_w [(0, (2, ((582 : Nat) : Int))), (2, (0, l2))] ⟨rfl, rfl, trivial⟩ ?_
          exact J210 1 (zR_i (Or.inr rfl)) (hW _ (by rw [if_neg (by omega)]))
      unfold W_readSum_13 at hW
      refine ir_l (pc' := 14) rfl rfl rfl rfl rfl rfl ?_
      refine ir_z_ne (pt := 174) (pc' := 17) rfl rfl rfl (fun c220 => ?_) (fun c220 => ?_)
      · have hW := hW.1 c220
        refine ir_w [] trivial ?_
        exact J174 s hv hW
      · have hW := hW.2 c220
        refine ir_l (pc' := 18) rfl rfl rfl rfl rfl rfl ?_
        refine ir_cVI (pc' := 21) rfl rfl rfl rfl rfl (Nat.le_of_ble_eq_true rfl) oo_X10_good vg_582 (w_good L ys (d + 4) s hv  _ hW) (fun z222 s221 hr => ?_)
        obtain ⟨s221v, z222r, hW⟩ := hr
        refine ir_z_eq (pt := 174) (pc' := 24) rfl rfl rfl (fun c223 => ?_) (fun c223 => ?_)
        · have hW := hW.1 c223
          refine ir_w [] trivial ?_
          exact J174 s221 s221v hW
        · have hW := hW.2 c223
          refine ir_l (pc' := 25) rfl rfl rfl rfl rfl rfl ?_
          refine ir_cVI (pc' := 28) rfl rfl rfl rfl rfl (Nat.le_of_ble_eq_true rfl) oo_X10_peek vg_582 (w_peek L ys (d + 4) s221 s221v  _ hW) (fun z225 s224 hr => ?_)
          obtain ⟨s224v, z225r, hW⟩ := hr
          refine ir_s (pc' := 29) rfl rfl rfl rfl rfl rfl ?_
          refine ir_l (pc' := 30) rfl rfl rfl rfl rfl rfl ?_
          refine ir_z_eq (pt := 42) (pc' := 33) rfl rfl rfl (fun c226 => ?_) (fun c226 => ?_)
          · have hW := hW.1 c226
            refine ir_l (pc' := 43) rfl rfl rfl rfl rfl rfl ?_
            refine ir_k (pc' := 45) (v := (0, 42)) rfl rfl rfl (fun _ => rfl) ?_
            refine ir_c_ne (pt := 76) (pc' := 48) rfl rfl rfl (fun c227 => ?_) (fun c227 => ?_)
            · have hW := hW.1 c227
              refine ir_l (pc' := 77) rfl rfl rfl rfl rfl rfl ?_
              refine ir_cVV (pc' := 80) rfl rfl rfl rfl rfl (Nat.le_of_ble_eq_true rfl) oo_X10_endTerm vg_582 (w_endTerm L ys (d + 3) s224 s224v  _ hW) (fun s228 hr => ?_)
              obtain ⟨s228v, hW⟩ := hr
              refine ir_l (pc' := 81) rfl rfl rfl rfl rfl rfl ?_
              refine ir_cVI (pc' := 84) rfl rfl rfl rfl rfl (Nat.le_of_ble_eq_true rfl) oo_X10_good vg_582 (w_good L ys (d + 4) s228 s228v  _ hW) (fun z231 s230 hr => ?_)
              obtain ⟨s230v, z231r, hW⟩ := hr
              refine ir_z_eq (pt := 147) (pc' := 87) rfl rfl rfl (fun c232 => ?_) (fun c232 => ?_)
              · have hW := hW.1 c232
                refine ir_w [(0, (2, ((582 : Nat) : Int))), (1, (0, l1)), (2, (0, l2)), (3, (0, z225))] ⟨rfl, rfl, rfl, rfl, trivial⟩ ?_
                exact J147 l1 l1r l2 l2r z225 z225r s230 s230v hW
              · have hW := hW.2 c232
                refine ir_l (pc' := 88) rfl rfl rfl rfl rfl rfl ?_
                refine ir_k (pc' := 90) (v := (0, 43)) rfl rfl rfl (fun _ => rfl) ?_
                refine ir_c_eq (pt := 99) (pc' := 93) rfl rfl rfl (fun c233 => ?_) (fun c233 => ?_)
                · have hW := hW.1 c233
                  refine ir_w [(0, (2, ((582 : Nat) : Int))), (2, (0, l2)), (3, (0, z225))] ⟨rfl, rfl, rfl, trivial⟩ ?_
                  exact J99 l2 l2r z225 z225r s230 s230v hW
                · have hW := hW.2 c233
                  refine ir_l (pc' := 94) rfl rfl rfl rfl rfl rfl ?_
                  refine ir_k (pc' := 96) (v := (0, 45)) rfl rfl rfl (fun _ => rfl) ?_
                  refine ir_c_ne (pt := 147) (pc' := 99) rfl rfl rfl (fun c234 => ?_) (fun c234 => ?_)
                  · have hW := hW.1 c234
                    refine ir_w [(0, (2, ((582 : Nat) : Int))), (1, (0, l1)), (2, (0, l2)), (3, (0, z225))] ⟨rfl, rfl, rfl, rfl, trivial⟩ ?_
                    exact J147 l1 l1r l2 l2r z225 z225r s230 s230v hW
                  · have hW := hW.2 c234
                    refine ir_w [(0, (2, ((582 : Nat) : Int))), (2, (0, l2)), (3, (0, z225))] ⟨rfl, rfl, rfl, trivial⟩ ?_
                    exact J99 l2 l2r z225 z225r s230 s230v hW
            · have hW := hW.2 c227
              obtain ⟨h237, hW⟩ := hW
              refine ir_l (pc' := 49) rfl rfl rfl rfl rfl rfl ?_
              refine ir_vgr (pc' := 52) (c := 595) rfl rfl rfl rfl rfl s224v ?_
              refine ir_l (pc' := 53) rfl rfl rfl rfl rfl rfl ?_
              refine ir_vgi (pc' := 56) rfl rfl rfl rfl rfl s224v (fun r235 => ?_)
              refine ir_l (pc' := 57) rfl rfl rfl rfl rfl rfl ?_
              refine ir_vgi (pc' := 60) rfl rfl rfl rfl rfl s224v (fun r236 => ?_)
              refine ir_vis (pc' := 61) rfl rfl vg_595 rfl (Nat.le_of_ble_eq_true rfl) s224v rfl h237 r236 (fun s238 s238e s238v => ?_)
              have hW := hW s238 s238e
              obtain ⟨h240, hW⟩ := hW
              refine ir_l (pc' := 62) rfl rfl rfl rfl rfl rfl ?_
              refine ir_x (pc' := 63) rfl rfl rfl (fun _ => rfl) ?_
              refine ir_vgi (pc' := 66) rfl rfl rfl rfl rfl s238v (fun r239 => ?_)
              refine ir_k (pc' := 67) (v := (0, 1)) rfl rfl rfl (fun _ => rfl) ?_
              refine ir_add (pc' := 68) rfl rfl h240.1 h240.2 ?_
              refine ir_vpi (pc' := 71) rfl rfl rfl rfl rfl rfl rfl s238v h240 (fun s241 s241e s241v => ?_)
              have hW := hW s241 s241e
              refine ir_k (pc' := 72) (v := (0, 1)) rfl rfl rfl (fun _ => rfl) ?_
              refine ir_s (pc' := 73) rfl rfl rfl rfl rfl rfl ?_
              refine ir_goto (pc' := 171) rfl rfl ?_
              refine ir_w [(0, (2, ((582 : Nat) : Int))), (1, (0, 1)), (2, (0, l2))] ⟨rfl, rfl, rfl, trivial⟩ ?_
              exact J171 1 (zR_i (Or.inr rfl)) l2 l2r s241 s241v hW
          · have hW := hW.2 c226
            refine ir_l (pc' := 34) rfl rfl rfl rfl rfl rfl ?_
            refine ir_l (pc' := 35) rfl rfl rfl rfl rfl rfl ?_
            refine ir_cVI (pc' := 38) rfl rfl rfl rfl rfl (Nat.le_of_ble_eq_true rfl) oo_X10_takeBase vg_582 (w_takeBase L ys d s224 s224v z225 z225r _ hW) (fun z243 s242 hr => ?_)
            obtain ⟨s242v, z243r, hW⟩ := hr
            refine ir_s (pc' := 39) rfl rfl rfl rfl rfl rfl ?_
            refine ir_goto (pc' := 171) rfl rfl ?_
            refine ir_w [(0, (2, ((582 : Nat) : Int))), (1, (0, z243)), (2, (0, l2))] ⟨rfl, rfl, rfl, trivial⟩ ?_
            exact J171 z243 (zR_i z243r) l2 l2r s242 s242v hW
  unfold W_readSum at hW
  refine ir_l (pc' := 1) rfl rfl rfl rfl rfl rfl ?_
  refine ir_k (pc' := 2) (v := (0, 0)) rfl rfl rfl (fun _ => rfl) ?_
  refine ir_vpi (pc' := 5) rfl rfl rfl rfl rfl rfl rfl hv (zR_i (Or.inl rfl)) (fun s244 s244e s244v => ?_)
  have hW := hW s244 s244e
  refine ir_l (pc' := 6) rfl rfl rfl rfl rfl rfl ?_
  refine ir_cVV (pc' := 9) rfl rfl rfl rfl rfl (Nat.le_of_ble_eq_true rfl) oo_X10_beginSum vg_582 (w_beginSum L ys (d + 3) s244 s244v  _ hW) (fun s245 hr => ?_)
  obtain ⟨s245v, hW⟩ := hr
  refine ir_k (pc' := 10) (v := (0, 1)) rfl rfl rfl (fun _ => rfl) ?_
  refine ir_s (pc' := 11) rfl rfl rfl rfl rfl rfl ?_
  refine ir_k (pc' := 12) (v := (0, 0)) rfl rfl rfl (fun _ => rfl) ?_
  refine ir_s (pc' := 13) rfl rfl rfl rfl rfl rfl ?_
  refine ir_w [(0, (2, ((582 : Nat) : Int))), (1, (0, 1)), (2, (0, 0))] ⟨rfl, rfl, rfl, trivial⟩ ?_
  obtain ⟨I9, r9, hI9, hB9⟩ := hW
  exact J13 I9 r9 hB9 _ 1 (zR_i (Or.inr rfl)) 0 (zR_i (Or.inl rfl)) s245 s245v hI9 (Nat.lt_succ_self _)
def W_readAtom_206 (l1 : Int) (s : im_S) (Q : im_S → Prop) : Prop := (∀ v202 : Int, v202 = (if ¬ (l1 = 61) then (if ¬ (l1 = 60) then 2 else 1) else 0) → ((0 ≤ (wgf s 6) ∧ (wgf s 6) < 10) ∧ (∀ s205, s205 = wpa s 585 (wgf s 6) v202 → (W_make (wgf s205 6) s205 (fun s207 => ((iR ((wgf s207 6) + 1)) ∧ (∀ s211, s211 = wpf s207 6 ((wgf s207 6) + 1) → (Q s211))))))))
def W_readAtom_200 (K137 : Int × im_S → Prop) (l1 : Int) (l2 : Int) (l3 : Int) (s : im_S) (Q : im_S → Prop) : Prop := ((iR (l3 + 1)) ∧ (K137 ((l3 + 1), s)))
def W_readAtom_137 (K137 : Int × im_S → Prop) (l1 : Int) (l2 : Int) (l3 : Int) (s : im_S) (Q : im_S → Prop) : Prop := ((9 ≤ l3 → (W_readAtom_206 l1 s Q)) ∧ (¬ (9 ≤ l3) → (W_good s (fun z215 s214 => ((z215 = 0 → (W_readAtom_206 l1 s214 Q)) ∧ (¬ (z215 = 0) → ((iR (9 * (wgf s214 6))) ∧ (0 ≤ ((9 * (wgf s214 6)) + l3) ∧ ((9 * (wgf s214 6)) + l3) < 90) ∧ (0 ≤ l3 ∧ l3 < 108) ∧ (lR ((wga s214 584 ((9 * (wgf s214 6)) + l3)) - (wga s214 589 l3))) ∧ (0 ≤ ((9 * (wgf s214 6)) + l3) ∧ ((9 * (wgf s214 6)) + l3) < 90) ∧ (∀ s226, s226 = wpa s214 584 ((9 * (wgf s214 6)) + l3) ((wga s214 584 ((9 * (wgf s214 6)) + l3)) - (wga s214 589 l3)) → ((iR (9 * (wgf s226 6))) ∧ (0 ≤ ((9 * (wgf s226 6)) + l3) ∧ ((9 * (wgf s226 6)) + l3) < 90) ∧ (W_isFine (wga s226 584 ((9 * (wgf s226 6)) + l3)) s226 (fun z233 s232 => ((¬ (z233 = 0) → (W_readAtom_200 K137 l1 l2 l3 s232 Q)) ∧ (z233 = 0 → (W_fail 3 l2 s232 (fun s235 => (W_readAtom_200 K137 l1 l2 l3 s235 Q))))))))))))))))
def W_readAtom_99 (K99 : Int × im_S → Prop) (l1 : Int) (l2 : Int) (l3 : Int) (s : im_S) (Q : im_S → Prop) : Prop := ((9 ≤ l3 → (W_readSum s (fun s238 => (wloop (fun (K : Int × im_S → Prop) (a : Int × im_S) => W_readAtom_137 K l1 l2 a.1 a.2 Q) (0, s238))))) ∧ (¬ (9 ≤ l3) → ((iR (9 * (wgf s 6))) ∧ (0 ≤ l3 ∧ l3 < 108) ∧ (0 ≤ ((9 * (wgf s 6)) + l3) ∧ ((9 * (wgf s 6)) + l3) < 90) ∧ (∀ s246, s246 = wpa s 584 ((9 * (wgf s 6)) + l3) (wga s 589 l3) → ((iR (l3 + 1)) ∧ (K99 ((l3 + 1), s246)))))))
def W_readAtom_74 (l1 : Int) (s : im_S) (Q : im_S → Prop) : Prop := (W_good s (fun z249 s248 => ((¬ (z249 = 0) → ((iR ((wgf s248 4) + 1)) ∧ (∀ s254, s254 = wpf s248 4 ((wgf s248 4) + 1) → (wloop (fun (K : Int × im_S → Prop) (a : Int × im_S) => W_readAtom_99 K l1 (wgf s248 4) a.1 a.2 Q) (0, s254))))) ∧ (z249 = 0 → (Q s248)))))
def W_readAtom_49 (l1 : Int) (s : im_S) (Q : im_S → Prop) : Prop := (W_good s (fun z256 s255 => ((z256 = 0 → (W_readAtom_74 l1 s255 Q)) ∧ (¬ (z256 = 0) → ((¬ ((wgf s255 6) = 10) → (W_readAtom_74 l1 s255 Q)) ∧ ((wgf s255 6) = 10 → (W_fail 3 (wgf s255 4) s255 (fun s261 => (W_readAtom_74 l1 s261 Q)))))))))
def W_readAtom_19 (k0 : Int) (s : im_S) (Q : im_S → Prop) : Prop := (W_good s (fun z264 s263 => ((z264 = 0 → (W_readAtom_49 k0 s263 Q)) ∧ (¬ (z264 = 0) → ((k0 = 61 → (W_readAtom_49 k0 s263 Q)) ∧ (¬ (k0 = 61) → ((k0 = 60 → (W_readAtom_49 k0 s263 Q)) ∧ (¬ (k0 = 60) → ((k0 = 62 → (W_readAtom_49 k0 s263 Q)) ∧ (¬ (k0 = 62) → (W_cannot s263 (fun s269 => (W_readAtom_49 k0 s269 Q)))))))))))))
def W_readAtom (s : im_S) (Q : im_S → Prop) : Prop := (W_readSum s (fun s271 => (W_good s271 (fun z274 s273 => ((z274 = 0 → (W_readAtom_19 (-1) s273 Q)) ∧ (¬ (z274 = 0) → (W_peek s273 (fun z277 s276 => (W_readAtom_19 z277 s276 Q)))))))))
set_option maxRecDepth 16384 in
theorem w_readAtom (L : Nat) (ys : Nat → Int32) (d : Nat) (s : im_S) (hv : vI s) (Q : im_S → Prop) (hW : W_readAtom s Q) : icV gG rm_P L ys (d + 7) 82 [(2, ((582 : Nat) : Int))] s (fun s9 => vI s9 ∧ Q s9) := by
  refine ic_startM (M := rm_p_X10_readAtom) om_X10_readAtom (Nat.le_of_ble_eq_true rfl) ?_
  refine ir_w [(0, (2, ((582 : Nat) : Int)))] ⟨rfl, trivial⟩ ?_
  have J206 : ∀ (l1 : Int) (l1r : iR l1) (s : im_S) (hv : vI s), W_readAtom_206 l1 s Q → ir gG rm_P L ys (d + 6) rm_p_X10_readAtom (206, [(0, (2, ((582 : Nat) : Int))), (1, (0, l1))], [], s) (fun r : im_Re => r.1 = none ∧ (vI r.2 ∧ Q r.2)) := by
    intro l1 l1r s hv hW
    unfold W_readAtom_206 at hW
    refine ir_l (pc' := 207) rfl rfl rfl rfl rfl rfl ?_
    refine ir_vgr (pc' := 210) (c := 585) rfl rfl rfl rfl rfl hv ?_
    refine ir_l (pc' := 211) rfl rfl rfl rfl rfl rfl ?_
    refine ir_vgi (pc' := 214) rfl rfl rfl rfl rfl hv (fun r1 => ?_)
    refine ir_l (pc' := 215) rfl rfl rfl rfl rfl rfl ?_
    refine ir_k (pc' := 217) (v := (0, 61)) rfl rfl rfl (fun _ => rfl) ?_
    have J203 : ∀ v202 : Int, iR v202 → (((0 ≤ (wgf s 6) ∧ (wgf s 6) < 10) ∧ (∀ s205, s205 = wpa s 585 (wgf s 6) v202 → (W_make (wgf s205 6) s205 (fun s207 => ((iR ((wgf s207 6) + 1)) ∧ (∀ s211, s211 = wpf s207 6 ((wgf s207 6) + 1) → (Q s211)))))))) → ir gG rm_P L ys (d + 6) rm_p_X10_readAtom (235, [(0, (2, ((582 : Nat) : Int)))], [(0, v202), (0, (wgf s 6)), (2, ((585 : Nat) : Int))], s) (fun r : im_Re => r.1 = none ∧ (vI r.2 ∧ Q r.2)) := by
      intro v202 v202r hW
      obtain ⟨h204, hW⟩ := hW
      refine ir_vis (pc' := 236) rfl rfl vg_585 rfl (Nat.le_of_ble_eq_true rfl) hv rfl h204 v202r (fun s205 s205e s205v => ?_)
      have hW := hW s205 s205e
      refine ir_l (pc' := 237) rfl rfl rfl rfl rfl rfl ?_
      refine ir_l (pc' := 238) rfl rfl rfl rfl rfl rfl ?_
      refine ir_vgi (pc' := 241) rfl rfl rfl rfl rfl s205v (fun r206 => ?_)
      refine ir_cVV (pc' := 244) rfl rfl rfl rfl rfl (Nat.le_of_ble_eq_true rfl) oo_X10_make vg_582 (w_make L ys (d + 5) s205 s205v (wgf s205 6) r206 _ hW) (fun s207 hr => ?_)
      obtain ⟨s207v, hW⟩ := hr
      obtain ⟨h210, hW⟩ := hW
      refine ir_l (pc' := 245) rfl rfl rfl rfl rfl rfl ?_
      refine ir_x (pc' := 246) rfl rfl rfl (fun _ => rfl) ?_
      refine ir_vgi (pc' := 249) rfl rfl rfl rfl rfl s207v (fun r209 => ?_)
      refine ir_k (pc' := 250) (v := (0, 1)) rfl rfl rfl (fun _ => rfl) ?_
      refine ir_add (pc' := 251) rfl rfl h210.1 h210.2 ?_
      refine ir_vpi (pc' := 254) rfl rfl rfl rfl rfl rfl rfl s207v h210 (fun s211 s211e s211v => ?_)
      have hW := hW s211 s211e
      exact ir_vret rfl rfl ⟨rfl, s211v, hW⟩
    refine ir_c_ne (pt := 224) (pc' := 220) rfl rfl rfl (fun c2 => ?_) (fun c2 => ?_)
    · refine ir_l (pc' := 225) rfl rfl rfl rfl rfl rfl ?_
      refine ir_k (pc' := 227) (v := (0, 60)) rfl rfl rfl (fun _ => rfl) ?_
      refine ir_c_ne (pt := 234) (pc' := 230) rfl rfl rfl (fun c3 => ?_) (fun c3 => ?_)
      · refine ir_k (pc' := 235) (v := (0, 2)) rfl rfl rfl (fun _ => rfl) ?_
        refine ir_w [(0, (2, ((582 : Nat) : Int)))] ⟨rfl, trivial⟩ ?_
        exact J203 2 (⟨by decide, by decide⟩ : iR 2) (hW _ (by rw [if_pos c2, if_pos c3]))
      · refine ir_k (pc' := 231) (v := (0, 1)) rfl rfl rfl (fun _ => rfl) ?_
        refine ir_goto (pc' := 235) rfl rfl ?_
        refine ir_w [(0, (2, ((582 : Nat) : Int)))] ⟨rfl, trivial⟩ ?_
        exact J203 1 (zR_i (Or.inr rfl)) (hW _ (by rw [if_pos c2, if_neg (by omega)]))
    · refine ir_k (pc' := 221) (v := (0, 0)) rfl rfl rfl (fun _ => rfl) ?_
      refine ir_goto (pc' := 235) rfl rfl ?_
      refine ir_w [(0, (2, ((582 : Nat) : Int)))] ⟨rfl, trivial⟩ ?_
      exact J203 0 (zR_i (Or.inl rfl)) (hW _ (by rw [if_neg (by omega)]))
  have J137 : ∀ (l1 : Int) (l1r : iR l1) (l2 : Int) (l2r : iR l2) (I137 : Int × im_S → Prop) (r137 : Int × im_S → Nat) (hB137 : ∀ a : Int × im_S, I137 a → W_readAtom_137 (fun b => I137 b ∧ r137 b < r137 a) l1 l2 a.1 a.2 Q), ∀ n137 : Nat, ∀ (l3 : Int) (l3r : iR l3) (s : im_S) (hv : vI s), I137 (l3, s) → r137 (l3, s) < n137 → ir gG rm_P L ys (d + 6) rm_p_X10_readAtom (137, [(0, (2, ((582 : Nat) : Int))), (1, (0, l1)), (2, (0, l2)), (3, (0, l3))], [], s) (fun r : im_Re => r.1 = none ∧ (vI r.2 ∧ Q r.2)) := by
    intro l1 l1r l2 l2r I137 r137 hB137 n137
    induction n137 with
    | zero => intro l3 l3r s hv hI hr; exact absurd hr (Nat.not_lt_zero _)
    | succ n137 ih137 =>
      intro l3 l3r s hv hI hr137
      obtain ⟨t137, ht137⟩ : ∃ t137 : Int × im_S, t137 = (l3, s) := ⟨_, rfl⟩
      rw [← ht137] at hr137
      have hW : W_readAtom_137 (fun b => I137 b ∧ r137 b < r137 t137) l1 l2 l3 s Q := by have z := hB137 (l3, s) hI; rw [ht137]; exact z
      have J200 : ∀ (l3 : Int) (l3r : iR l3) (s : im_S) (hv : vI s), W_readAtom_200 (fun b => I137 b ∧ r137 b < r137 t137) l1 l2 l3 s Q → ir gG rm_P L ys (d + 6) rm_p_X10_readAtom (200, [(0, (2, ((582 : Nat) : Int))), (1, (0, l1)), (2, (0, l2)), (3, (0, l3))], [], s) (fun r : im_Re => r.1 = none ∧ (vI r.2 ∧ Q r.2)) := by
        intro l3 l3r s hv hW
        unfold W_readAtom_200 at hW
        obtain ⟨h212, hW⟩ := hW
        refine ir_inc (pc' := 203) rfl rfl rfl rfl rfl h212.1 h212.2 ?_
        refine ir_goto (pc' := 137) rfl rfl ?_
        refine ir_w [(0, (2, ((582 : Nat) : Int))), (1, (0, l1)), (2, (0, l2)), (3, (0, (l3 + 1)))] ⟨rfl, rfl, rfl, rfl, trivial⟩ ?_
        exact ih137 (l3 + 1) h212 s hv hW.1 (Nat.lt_of_lt_of_le hW.2 (Nat.le_of_lt_succ hr137))
      unfold W_readAtom_137 at hW
      refine ir_l (pc' := 138) rfl rfl rfl rfl rfl rfl ?_
      refine ir_k (pc' := 140) (v := (0, 9)) rfl rfl rfl (fun _ => rfl) ?_
      refine ir_c_ge (pt := 206) (pc' := 143) rfl rfl rfl (fun c213 => ?_) (fun c213 => ?_)
      · have hW := hW.1 c213
        refine ir_w [(0, (2, ((582 : Nat) : Int))), (1, (0, l1))] ⟨rfl, rfl, trivial⟩ ?_
        exact J206 l1 l1r s hv hW
      · have hW := hW.2 c213
        refine ir_l (pc' := 144) rfl rfl rfl rfl rfl rfl ?_
        refine ir_cVI (pc' := 147) rfl rfl rfl rfl rfl (Nat.le_of_ble_eq_true rfl) oo_X10_good vg_582 (w_good L ys (d + 5) s hv  _ hW) (fun z215 s214 hr => ?_)
        obtain ⟨s214v, z215r, hW⟩ := hr
        refine ir_z_eq (pt := 206) (pc' := 150) rfl rfl rfl (fun c216 => ?_) (fun c216 => ?_)
        · have hW := hW.1 c216
          refine ir_w [(0, (2, ((582 : Nat) : Int))), (1, (0, l1))] ⟨rfl, rfl, trivial⟩ ?_
          exact J206 l1 l1r s214 s214v hW
        · have hW := hW.2 c216
          obtain ⟨h218, h220, h222, h224, h225, hW⟩ := hW
          have h219 : iR ((9 * (wgf s214 6)) + l3) := ⟨by omega, by omega⟩
          refine ir_l (pc' := 151) rfl rfl rfl rfl rfl rfl ?_
          refine ir_vgr (pc' := 154) (c := 584) rfl rfl rfl rfl rfl s214v ?_
          refine ir_k (pc' := 156) (v := (0, 9)) rfl rfl rfl (fun _ => rfl) ?_
          refine ir_l (pc' := 157) rfl rfl rfl rfl rfl rfl ?_
          refine ir_vgi (pc' := 160) rfl rfl rfl rfl rfl s214v (fun r217 => ?_)
          refine ir_mul (pc' := 161) rfl rfl h218.1 h218.2 ?_
          refine ir_l (pc' := 162) rfl rfl rfl rfl rfl rfl ?_
          refine ir_add (pc' := 163) rfl rfl h219.1 h219.2 ?_
          refine ir_x (pc' := 164) rfl rfl rfl (fun _ => rfl) ?_
          refine ir_vla (pc' := 165) rfl rfl vg_584 rfl (Nat.le_of_ble_eq_true rfl) s214v rfl h220 (fun r221 => ?_)
          refine ir_l (pc' := 166) rfl rfl rfl rfl rfl rfl ?_
          refine ir_vgr (pc' := 169) (c := 589) rfl rfl rfl rfl rfl s214v ?_
          refine ir_l (pc' := 170) rfl rfl rfl rfl rfl rfl ?_
          refine ir_vla (pc' := 171) rfl rfl vg_589 rfl (Nat.le_of_ble_eq_true rfl) s214v rfl h222 (fun r223 => ?_)
          refine ir_lsub (pc' := 172) rfl rfl h224.1 h224.2 ?_
          refine ir_vls (pc' := 173) rfl rfl vg_584 rfl (Nat.le_of_ble_eq_true rfl) s214v rfl h225 h224 (fun s226 s226e s226v => ?_)
          have hW := hW s226 s226e
          obtain ⟨h228, h230, hW⟩ := hW
          have h229 : iR ((9 * (wgf s226 6)) + l3) := ⟨by omega, by omega⟩
          refine ir_l (pc' := 174) rfl rfl rfl rfl rfl rfl ?_
          refine ir_l (pc' := 175) rfl rfl rfl rfl rfl rfl ?_
          refine ir_vgr (pc' := 178) (c := 584) rfl rfl rfl rfl rfl s226v ?_
          refine ir_k (pc' := 180) (v := (0, 9)) rfl rfl rfl (fun _ => rfl) ?_
          refine ir_l (pc' := 181) rfl rfl rfl rfl rfl rfl ?_
          refine ir_vgi (pc' := 184) rfl rfl rfl rfl rfl s226v (fun r227 => ?_)
          refine ir_mul (pc' := 185) rfl rfl h228.1 h228.2 ?_
          refine ir_l (pc' := 186) rfl rfl rfl rfl rfl rfl ?_
          refine ir_add (pc' := 187) rfl rfl h229.1 h229.2 ?_
          refine ir_vla (pc' := 188) rfl rfl vg_584 rfl (Nat.le_of_ble_eq_true rfl) s226v rfl h230 (fun r231 => ?_)
          refine ir_cVI (pc' := 191) rfl rfl rfl rfl rfl (Nat.le_of_ble_eq_true rfl) oo_X10_isFine vg_582 (w_isFine L ys (d + 5) s226 s226v (wga s226 584 ((9 * (wgf s226 6)) + l3)) r231 _ hW) (fun z233 s232 hr => ?_)
          obtain ⟨s232v, z233r, hW⟩ := hr
          refine ir_z_ne (pt := 200) (pc' := 194) rfl rfl rfl (fun c234 => ?_) (fun c234 => ?_)
          · have hW := hW.1 c234
            refine ir_w [(0, (2, ((582 : Nat) : Int))), (1, (0, l1)), (2, (0, l2)), (3, (0, l3))] ⟨rfl, rfl, rfl, rfl, trivial⟩ ?_
            exact J200 l3 l3r s232 s232v hW
          · have hW := hW.2 c234
            refine ir_l (pc' := 195) rfl rfl rfl rfl rfl rfl ?_
            refine ir_k (pc' := 196) (v := (0, 3)) rfl rfl rfl (fun _ => rfl) ?_
            refine ir_l (pc' := 197) rfl rfl rfl rfl rfl rfl ?_
            refine ir_cVV (pc' := 200) rfl rfl rfl rfl rfl (Nat.le_of_ble_eq_true rfl) oo_X10_fail vg_582 (w_fail L ys (d + 5) s232 s232v 3 (⟨by decide, by decide⟩ : iR 3) l2 l2r _ hW) (fun s235 hr => ?_)
            obtain ⟨s235v, hW⟩ := hr
            refine ir_w [(0, (2, ((582 : Nat) : Int))), (1, (0, l1)), (2, (0, l2)), (3, (0, l3))] ⟨rfl, rfl, rfl, rfl, trivial⟩ ?_
            exact J200 l3 l3r s235 s235v hW
  have J99 : ∀ (l1 : Int) (l1r : iR l1) (l2 : Int) (l2r : iR l2) (I99 : Int × im_S → Prop) (r99 : Int × im_S → Nat) (hB99 : ∀ a : Int × im_S, I99 a → W_readAtom_99 (fun b => I99 b ∧ r99 b < r99 a) l1 l2 a.1 a.2 Q), ∀ n99 : Nat, ∀ (l3 : Int) (l3r : iR l3) (s : im_S) (hv : vI s), I99 (l3, s) → r99 (l3, s) < n99 → ir gG rm_P L ys (d + 6) rm_p_X10_readAtom (99, [(0, (2, ((582 : Nat) : Int))), (1, (0, l1)), (2, (0, l2)), (3, (0, l3))], [], s) (fun r : im_Re => r.1 = none ∧ (vI r.2 ∧ Q r.2)) := by
    intro l1 l1r l2 l2r I99 r99 hB99 n99
    induction n99 with
    | zero => intro l3 l3r s hv hI hr; exact absurd hr (Nat.not_lt_zero _)
    | succ n99 ih99 =>
      intro l3 l3r s hv hI hr99
      obtain ⟨t99, ht99⟩ : ∃ t99 : Int × im_S, t99 = (l3, s) := ⟨_, rfl⟩
      rw [← ht99] at hr99
      have hW : W_readAtom_99 (fun b => I99 b ∧ r99 b < r99 t99) l1 l2 l3 s Q := by have z := hB99 (l3, s) hI; rw [ht99]; exact z
      unfold W_readAtom_99 at hW
      refine ir_l (pc' := 100) rfl rfl rfl rfl rfl rfl ?_
      refine ir_k (pc' := 102) (v := (0, 9)) rfl rfl rfl (fun _ => rfl) ?_
      refine ir_c_ge (pt := 131) (pc' := 105) rfl rfl rfl (fun c237 => ?_) (fun c237 => ?_)
      · have hW := hW.1 c237
        refine ir_l (pc' := 132) rfl rfl rfl rfl rfl rfl ?_
        refine ir_cVV (pc' := 135) rfl rfl rfl rfl rfl (Nat.le_of_ble_eq_true rfl) oo_X10_readSum vg_582 (w_readSum L ys d s hv  _ hW) (fun s238 hr => ?_)
        obtain ⟨s238v, hW⟩ := hr
        refine ir_k (pc' := 136) (v := (0, 0)) rfl rfl rfl (fun _ => rfl) ?_
        refine ir_s (pc' := 137) rfl rfl rfl rfl rfl rfl ?_
        refine ir_w [(0, (2, ((582 : Nat) : Int))), (1, (0, l1)), (2, (0, l2)), (3, (0, 0))] ⟨rfl, rfl, rfl, rfl, trivial⟩ ?_
        obtain ⟨I9, r9, hI9, hB9⟩ := hW
        exact J137 l1 l1r l2 l2r I9 r9 hB9 _ 0 (zR_i (Or.inl rfl)) s238 s238v hI9 (Nat.lt_succ_self _)
      · have hW := hW.2 c237
        obtain ⟨h241, h243, h245, hW⟩ := hW
        have h242 : iR ((9 * (wgf s 6)) + l3) := ⟨by omega, by omega⟩
        refine ir_l (pc' := 106) rfl rfl rfl rfl rfl rfl ?_
        refine ir_vgr (pc' := 109) (c := 584) rfl rfl rfl rfl rfl hv ?_
        refine ir_k (pc' := 111) (v := (0, 9)) rfl rfl rfl (fun _ => rfl) ?_
        refine ir_l (pc' := 112) rfl rfl rfl rfl rfl rfl ?_
        refine ir_vgi (pc' := 115) rfl rfl rfl rfl rfl hv (fun r240 => ?_)
        refine ir_mul (pc' := 116) rfl rfl h241.1 h241.2 ?_
        refine ir_l (pc' := 117) rfl rfl rfl rfl rfl rfl ?_
        refine ir_add (pc' := 118) rfl rfl h242.1 h242.2 ?_
        refine ir_l (pc' := 119) rfl rfl rfl rfl rfl rfl ?_
        refine ir_vgr (pc' := 122) (c := 589) rfl rfl rfl rfl rfl hv ?_
        refine ir_l (pc' := 123) rfl rfl rfl rfl rfl rfl ?_
        refine ir_vla (pc' := 124) rfl rfl vg_589 rfl (Nat.le_of_ble_eq_true rfl) hv rfl h243 (fun r244 => ?_)
        refine ir_vls (pc' := 125) rfl rfl vg_584 rfl (Nat.le_of_ble_eq_true rfl) hv rfl h245 r244 (fun s246 s246e s246v => ?_)
        have hW := hW s246 s246e
        obtain ⟨h247, hW⟩ := hW
        refine ir_inc (pc' := 128) rfl rfl rfl rfl rfl h247.1 h247.2 ?_
        refine ir_goto (pc' := 99) rfl rfl ?_
        refine ir_w [(0, (2, ((582 : Nat) : Int))), (1, (0, l1)), (2, (0, l2)), (3, (0, (l3 + 1)))] ⟨rfl, rfl, rfl, rfl, trivial⟩ ?_
        exact ih99 (l3 + 1) h247 s246 s246v hW.1 (Nat.lt_of_lt_of_le hW.2 (Nat.le_of_lt_succ hr99))
  have J74 : ∀ (l1 : Int) (l1r : iR l1) (s : im_S) (hv : vI s), W_readAtom_74 l1 s Q → ir gG rm_P L ys (d + 6) rm_p_X10_readAtom (74, [(0, (2, ((582 : Nat) : Int))), (1, (0, l1))], [], s) (fun r : im_Re => r.1 = none ∧ (vI r.2 ∧ Q r.2)) := by
    intro l1 l1r s hv hW
    unfold W_readAtom_74 at hW
    refine ir_l (pc' := 75) rfl rfl rfl rfl rfl rfl ?_
    refine ir_cVI (pc' := 78) rfl rfl rfl rfl rfl (Nat.le_of_ble_eq_true rfl) oo_X10_good vg_582 (w_good L ys (d + 5) s hv  _ hW) (fun z249 s248 hr => ?_)
    obtain ⟨s248v, z249r, hW⟩ := hr
    refine ir_z_ne (pt := 82) (pc' := 81) rfl rfl rfl (fun c250 => ?_) (fun c250 => ?_)
    · have hW := hW.1 c250
      obtain ⟨h253, hW⟩ := hW
      refine ir_l (pc' := 83) rfl rfl rfl rfl rfl rfl ?_
      refine ir_vgi (pc' := 86) rfl rfl rfl rfl rfl s248v (fun r251 => ?_)
      refine ir_s (pc' := 87) rfl rfl rfl rfl rfl rfl ?_
      refine ir_l (pc' := 88) rfl rfl rfl rfl rfl rfl ?_
      refine ir_x (pc' := 89) rfl rfl rfl (fun _ => rfl) ?_
      refine ir_vgi (pc' := 92) rfl rfl rfl rfl rfl s248v (fun r252 => ?_)
      refine ir_k (pc' := 93) (v := (0, 1)) rfl rfl rfl (fun _ => rfl) ?_
      refine ir_add (pc' := 94) rfl rfl h253.1 h253.2 ?_
      refine ir_vpi (pc' := 97) rfl rfl rfl rfl rfl rfl rfl s248v h253 (fun s254 s254e s254v => ?_)
      have hW := hW s254 s254e
      refine ir_k (pc' := 98) (v := (0, 0)) rfl rfl rfl (fun _ => rfl) ?_
      refine ir_s (pc' := 99) rfl rfl rfl rfl rfl rfl ?_
      refine ir_w [(0, (2, ((582 : Nat) : Int))), (1, (0, l1)), (2, (0, (wgf s248 4))), (3, (0, 0))] ⟨rfl, rfl, rfl, rfl, trivial⟩ ?_
      obtain ⟨I9, r9, hI9, hB9⟩ := hW
      exact J99 l1 l1r (wgf s248 4) r251 I9 r9 hB9 _ 0 (zR_i (Or.inl rfl)) s254 s254v hI9 (Nat.lt_succ_self _)
    · have hW := hW.2 c250
      exact ir_vret rfl rfl ⟨rfl, s248v, hW⟩
  have J49 : ∀ (l1 : Int) (l1r : iR l1) (s : im_S) (hv : vI s), W_readAtom_49 l1 s Q → ir gG rm_P L ys (d + 6) rm_p_X10_readAtom (49, [(0, (2, ((582 : Nat) : Int))), (1, (0, l1))], [], s) (fun r : im_Re => r.1 = none ∧ (vI r.2 ∧ Q r.2)) := by
    intro l1 l1r s hv hW
    unfold W_readAtom_49 at hW
    refine ir_l (pc' := 50) rfl rfl rfl rfl rfl rfl ?_
    refine ir_cVI (pc' := 53) rfl rfl rfl rfl rfl (Nat.le_of_ble_eq_true rfl) oo_X10_good vg_582 (w_good L ys (d + 5) s hv  _ hW) (fun z256 s255 hr => ?_)
    obtain ⟨s255v, z256r, hW⟩ := hr
    refine ir_z_eq (pt := 74) (pc' := 56) rfl rfl rfl (fun c257 => ?_) (fun c257 => ?_)
    · have hW := hW.1 c257
      refine ir_w [(0, (2, ((582 : Nat) : Int))), (1, (0, l1))] ⟨rfl, rfl, trivial⟩ ?_
      exact J74 l1 l1r s255 s255v hW
    · have hW := hW.2 c257
      refine ir_l (pc' := 57) rfl rfl rfl rfl rfl rfl ?_
      refine ir_vgi (pc' := 60) rfl rfl rfl rfl rfl s255v (fun r258 => ?_)
      refine ir_k (pc' := 62) (v := (0, 10)) rfl rfl rfl (fun _ => rfl) ?_
      refine ir_c_ne (pt := 74) (pc' := 65) rfl rfl rfl (fun c259 => ?_) (fun c259 => ?_)
      · have hW := hW.1 c259
        refine ir_w [(0, (2, ((582 : Nat) : Int))), (1, (0, l1))] ⟨rfl, rfl, trivial⟩ ?_
        exact J74 l1 l1r s255 s255v hW
      · have hW := hW.2 c259
        refine ir_l (pc' := 66) rfl rfl rfl rfl rfl rfl ?_
        refine ir_k (pc' := 67) (v := (0, 3)) rfl rfl rfl (fun _ => rfl) ?_
        refine ir_l (pc' := 68) rfl rfl rfl rfl rfl rfl ?_
        refine ir_vgi (pc' := 71) rfl rfl rfl rfl rfl s255v (fun r260 => ?_)
        refine ir_cVV (pc' := 74) rfl rfl rfl rfl rfl (Nat.le_of_ble_eq_true rfl) oo_X10_fail vg_582 (w_fail L ys (d + 5) s255 s255v 3 (⟨by decide, by decide⟩ : iR 3) (wgf s255 4) r260 _ hW) (fun s261 hr => ?_)
        obtain ⟨s261v, hW⟩ := hr
        refine ir_w [(0, (2, ((582 : Nat) : Int))), (1, (0, l1))] ⟨rfl, rfl, trivial⟩ ?_
        exact J74 l1 l1r s261 s261v hW
  have J19 : ∀ (k0 : Int) (k0r : iR k0) (s : im_S) (hv : vI s), W_readAtom_19 k0 s Q → ir gG rm_P L ys (d + 6) rm_p_X10_readAtom (19, [(0, (2, ((582 : Nat) : Int)))], [(0, k0)], s) (fun r : im_Re => r.1 = none ∧ (vI r.2 ∧ Q r.2)) := by
    intro k0 k0r s hv hW
    unfold W_readAtom_19 at hW
    refine ir_s (pc' := 20) rfl rfl rfl rfl rfl rfl ?_
    refine ir_l (pc' := 21) rfl rfl rfl rfl rfl rfl ?_
    refine ir_cVI (pc' := 24) rfl rfl rfl rfl rfl (Nat.le_of_ble_eq_true rfl) oo_X10_good vg_582 (w_good L ys (d + 5) s hv  _ hW) (fun z264 s263 hr => ?_)
    obtain ⟨s263v, z264r, hW⟩ := hr
    refine ir_z_eq (pt := 49) (pc' := 27) rfl rfl rfl (fun c265 => ?_) (fun c265 => ?_)
    · have hW := hW.1 c265
      refine ir_w [(0, (2, ((582 : Nat) : Int))), (1, (0, k0))] ⟨rfl, rfl, trivial⟩ ?_
      exact J49 k0 k0r s263 s263v hW
    · have hW := hW.2 c265
      refine ir_l (pc' := 28) rfl rfl rfl rfl rfl rfl ?_
      refine ir_k (pc' := 30) (v := (0, 61)) rfl rfl rfl (fun _ => rfl) ?_
      refine ir_c_eq (pt := 49) (pc' := 33) rfl rfl rfl (fun c266 => ?_) (fun c266 => ?_)
      · have hW := hW.1 c266
        refine ir_w [(0, (2, ((582 : Nat) : Int))), (1, (0, k0))] ⟨rfl, rfl, trivial⟩ ?_
        exact J49 k0 k0r s263 s263v hW
      · have hW := hW.2 c266
        refine ir_l (pc' := 34) rfl rfl rfl rfl rfl rfl ?_
        refine ir_k (pc' := 36) (v := (0, 60)) rfl rfl rfl (fun _ => rfl) ?_
        refine ir_c_eq (pt := 49) (pc' := 39) rfl rfl rfl (fun c267 => ?_) (fun c267 => ?_)
        · have hW := hW.1 c267
          refine ir_w [(0, (2, ((582 : Nat) : Int))), (1, (0, k0))] ⟨rfl, rfl, trivial⟩ ?_
          exact J49 k0 k0r s263 s263v hW
        · have hW := hW.2 c267
          refine ir_l (pc' := 40) rfl rfl rfl rfl rfl rfl ?_
          refine ir_k (pc' := 42) (v := (0, 62)) rfl rfl rfl (fun _ => rfl) ?_
          refine ir_c_eq (pt := 49) (pc' := 45) rfl rfl rfl (fun c268 => ?_) (fun c268 => ?_)
          · have hW := hW.1 c268
            refine ir_w [(0, (2, ((582 : Nat) : Int))), (1, (0, k0))] ⟨rfl, rfl, trivial⟩ ?_
            exact J49 k0 k0r s263 s263v hW
          · have hW := hW.2 c268
            refine ir_l (pc' := 46) rfl rfl rfl rfl rfl rfl ?_
            refine ir_cVV (pc' := 49) rfl rfl rfl rfl rfl (Nat.le_of_ble_eq_true rfl) oo_X10_cannot vg_582 (w_cannot L ys (d + 3) s263 s263v  _ hW) (fun s269 hr => ?_)
            obtain ⟨s269v, hW⟩ := hr
            refine ir_w [(0, (2, ((582 : Nat) : Int))), (1, (0, k0))] ⟨rfl, rfl, trivial⟩ ?_
            exact J49 k0 k0r s269 s269v hW
  unfold W_readAtom at hW
  refine ir_l (pc' := 1) rfl rfl rfl rfl rfl rfl ?_
  refine ir_cVV (pc' := 4) rfl rfl rfl rfl rfl (Nat.le_of_ble_eq_true rfl) oo_X10_readSum vg_582 (w_readSum L ys d s hv  _ hW) (fun s271 hr => ?_)
  obtain ⟨s271v, hW⟩ := hr
  refine ir_l (pc' := 5) rfl rfl rfl rfl rfl rfl ?_
  refine ir_cVI (pc' := 8) rfl rfl rfl rfl rfl (Nat.le_of_ble_eq_true rfl) oo_X10_good vg_582 (w_good L ys (d + 5) s271 s271v  _ hW) (fun z274 s273 hr => ?_)
  obtain ⟨s273v, z274r, hW⟩ := hr
  refine ir_z_eq (pt := 18) (pc' := 11) rfl rfl rfl (fun c275 => ?_) (fun c275 => ?_)
  · have hW := hW.1 c275
    refine ir_k (pc' := 19) (v := (0, (-1))) rfl rfl rfl (fun _ => rfl) ?_
    refine ir_w [(0, (2, ((582 : Nat) : Int)))] ⟨rfl, trivial⟩ ?_
    exact J19 (-1) (⟨by decide, by decide⟩ : iR (-1)) s273 s273v hW
  · have hW := hW.2 c275
    refine ir_l (pc' := 12) rfl rfl rfl rfl rfl rfl ?_
    refine ir_cVI (pc' := 15) rfl rfl rfl rfl rfl (Nat.le_of_ble_eq_true rfl) oo_X10_peek vg_582 (w_peek L ys (d + 5) s273 s273v  _ hW) (fun z277 s276 hr => ?_)
    obtain ⟨s276v, z277r, hW⟩ := hr
    refine ir_goto (pc' := 19) rfl rfl ?_
    refine ir_w [(0, (2, ((582 : Nat) : Int)))] ⟨rfl, trivial⟩ ?_
    exact J19 z277 z277r s276 s276v hW
def W_readText_292 (s : im_S) (Q : im_S → Prop) : Prop := (W_settle (-3) s (fun s1 => (Q s1)))
def W_readText_289 (K24 : Int × Int × Int × Int × im_S → Prop) (l1 : Int) (l2 : Int) (l3 : Int) (l4 : Int) (s : im_S) (Q : im_S → Prop) : Prop := (K24 (l1, l2, l3, l4, s))
def W_readText_285 (K24 : Int × Int × Int × Int × im_S → Prop) (l1 : Int) (l2 : Int) (l3 : Int) (l4 : Int) (s : im_S) (Q : im_S → Prop) : Prop := (W_cannot s (fun s3 => (W_readText_289 K24 l1 l2 l3 l4 s3 Q)))
def W_readText_272 (K24 : Int × Int × Int × Int × im_S → Prop) (l1 : Int) (l2 : Int) (l3 : Int) (l5 : Int) (s : im_S) (Q : im_S → Prop) : Prop := ((¬ (l5 = (-1)) → (W_readText_285 K24 l1 l2 l3 1 s Q)) ∧ (l5 = (-1) → ((l1 ≤ 0 → (W_readText_289 K24 l1 l2 l3 1 s Q)) ∧ (¬ (l1 ≤ 0) → (W_readText_285 K24 l1 l2 l3 1 s Q)))))
def W_readText_173 (K24 : Int × Int × Int × Int × im_S → Prop) (l1 : Int) (l2 : Int) (l4 : Int) (l5 : Int) (s : im_S) (Q : im_S → Prop) : Prop := (∀ v207 : Int, v207 = (if ¬ (l5 = 38) then (-3) else (-2)) → (W_settle v207 s (fun s209 => (∀ v411 : Int, v411 = (if ¬ (l5 = 38) then (-3) else (-2)) → (W_wait1 v411 s209 (fun s413 => ((iR ((wgf s413 4) + 1)) ∧ (∀ s417, s417 = wpf s413 4 ((wgf s413 4) + 1) → (W_readText_289 K24 l1 l2 1 l4 s417 Q)))))))))
def W_readText_139 (K24 : Int × Int × Int × Int × im_S → Prop) (l1 : Int) (l2 : Int) (l3 : Int) (l4 : Int) (l5 : Int) (s : im_S) (Q : im_S → Prop) : Prop := ((l3 = 0 → ((l5 = 38 → (W_readText_173 K24 l1 l2 l4 l5 s Q)) ∧ (¬ (l5 = 38) → ((¬ (l5 = 124) → ((¬ (l5 = 93) → (W_readText_272 K24 l1 l2 l3 l5 s Q)) ∧ (l5 = 93 → ((l1 ≤ 0 → (W_readText_272 K24 l1 l2 l3 l5 s Q)) ∧ (¬ (l1 ≤ 0) → (W_settle (-3) s (fun s423 => ((iR ((wgf s423 12) - 1)) ∧ (∀ s427, s427 = wpf s423 12 ((wgf s423 12) - 1) → ((iR (l1 + (-1))) ∧ (iR ((wgf s427 4) + 1)) ∧ (∀ s431, s431 = wpf s427 4 ((wgf s427 4) + 1) → (W_settle (-1) s431 (fun s432 => (W_readText_289 K24 (l1 + (-1)) l2 l3 l4 s432 Q)))))))))))))) ∧ (l5 = 124 → (W_readText_173 K24 l1 l2 l4 l5 s Q)))))) ∧ (¬ (l3 = 0) → (W_readAtom s (fun s434 => (W_settle (-1) s434 (fun s436 => (W_readText_289 K24 l1 0 0 l4 s436 Q)))))))
def W_readText_118 (K24 : Int × Int × Int × Int × im_S → Prop) (l1 : Int) (l3 : Int) (l4 : Int) (s : im_S) (Q : im_S → Prop) : Prop := (W_wait1 (-4) s (fun s438 => ((iR ((wgf s438 4) + 1)) ∧ (∀ s442, s442 = wpf s438 4 ((wgf s438 4) + 1) → (W_readText_289 K24 l1 0 l3 l4 s442 Q)))))
def W_readText_89 (K24 : Int × Int × Int × Int × im_S → Prop) (l1 : Int) (l2 : Int) (l3 : Int) (l4 : Int) (l5 : Int) (s : im_S) (Q : im_S → Prop) : Prop := ((l3 = 0 → (W_readText_139 K24 l1 l2 l3 l4 l5 s Q)) ∧ (¬ (l3 = 0) → ((¬ (l5 = 91) → (W_readText_139 K24 l1 l2 l3 l4 l5 s Q)) ∧ (l5 = 91 → ((iR (l1 + 1)) ∧ (((l1 + 1) ≤ 10 → (W_readText_118 K24 (l1 + 1) l3 l4 s Q)) ∧ (¬ ((l1 + 1) ≤ 10) → (W_fail 3 (wgf s 4) s (fun s448 => (W_readText_118 K24 (l1 + 1) l3 l4 s448 Q))))))))))
def W_readText_71 (K24 : Int × Int × Int × Int × im_S → Prop) (l1 : Int) (l2 : Int) (l3 : Int) (l4 : Int) (s : im_S) (Q : im_S → Prop) : Prop := (W_wait1 (-1) s (fun s450 => ((iR ((wgf s450 4) + 1)) ∧ (∀ s454, s454 = wpf s450 4 ((wgf s450 4) + 1) → (W_readText_289 K24 l1 l2 l3 l4 s454 Q)))))
def W_readText_24 (K24 : Int × Int × Int × Int × im_S → Prop) (l1 : Int) (l2 : Int) (l3 : Int) (l4 : Int) (s : im_S) (Q : im_S → Prop) : Prop := ((¬ (l4 = 0) → (W_readText_292 s Q)) ∧ (l4 = 0 → (W_good s (fun z457 s456 => ((z457 = 0 → (W_readText_292 s456 Q)) ∧ (¬ (z457 = 0) → (W_peek s456 (fun z460 s459 => ((l3 = 0 → (W_readText_89 K24 l1 l2 l3 l4 z460 s459 Q)) ∧ (¬ (l3 = 0) → ((¬ (z460 = 126) → (W_readText_89 K24 l1 l2 l3 l4 z460 s459 Q)) ∧ (z460 = 126 → ((iR (l2 + 1)) ∧ (((l2 + 1) ≤ 10 → (W_readText_71 K24 l1 (l2 + 1) l3 l4 s459 Q)) ∧ (¬ ((l2 + 1) ≤ 10) → (W_fail 3 (wgf s459 4) s459 (fun s466 => (W_readText_71 K24 l1 (l2 + 1) l3 l4 s466 Q))))))))))))))))))
def W_readText (s : im_S) (Q : im_S → Prop) : Prop := (∀ s468, s468 = wpf s 10 0 → (∀ s469, s469 = wpf s468 12 0 → (∀ s470, s470 = wpf s469 6 0 → (wloop (fun (K : Int × Int × Int × Int × im_S → Prop) (a : Int × Int × Int × Int × im_S) => W_readText_24 K a.1 a.2.1 a.2.2.1 a.2.2.2.1 a.2.2.2.2 Q) (0, 0, 1, 0, s470)))))
set_option maxRecDepth 16384 in
theorem w_readText (L : Nat) (ys : Nat → Int32) (d : Nat) (s : im_S) (hv : vI s) (Q : im_S → Prop) (hW : W_readText s Q) : icV gG rm_P L ys (d + 8) 84 [(2, ((582 : Nat) : Int))] s (fun s9 => vI s9 ∧ Q s9) := by
  refine ic_startM (M := rm_p_X10_readText) om_X10_readText (Nat.le_of_ble_eq_true rfl) ?_
  refine ir_w [(0, (2, ((582 : Nat) : Int)))] ⟨rfl, trivial⟩ ?_
  have J292 : ∀ (s : im_S) (hv : vI s), W_readText_292 s Q → ir gG rm_P L ys (d + 7) rm_p_X10_readText (292, [(0, (2, ((582 : Nat) : Int)))], [], s) (fun r : im_Re => r.1 = none ∧ (vI r.2 ∧ Q r.2)) := by
    intro s hv hW
    unfold W_readText_292 at hW
    refine ir_l (pc' := 293) rfl rfl rfl rfl rfl rfl ?_
    refine ir_k (pc' := 295) (v := (0, (-3))) rfl rfl rfl (fun _ => rfl) ?_
    refine ir_cVV (pc' := 298) rfl rfl rfl rfl rfl (Nat.le_of_ble_eq_true rfl) oo_X10_settle vg_582 (w_settle L ys (d + 5) s hv (-3) (⟨by decide, by decide⟩ : iR (-3)) _ hW) (fun s1 hr => ?_)
    obtain ⟨s1v, hW⟩ := hr
    exact ir_vret rfl rfl ⟨rfl, s1v, hW⟩
  have J24 : ∀ (I24 : Int × Int × Int × Int × im_S → Prop) (r24 : Int × Int × Int × Int × im_S → Nat) (hB24 : ∀ a : Int × Int × Int × Int × im_S, I24 a → W_readText_24 (fun b => I24 b ∧ r24 b < r24 a) a.1 a.2.1 a.2.2.1 a.2.2.2.1 a.2.2.2.2 Q), ∀ n24 : Nat, ∀ (l1 : Int) (l1r : iR l1) (l2 : Int) (l2r : iR l2) (l3 : Int) (l3r : iR l3) (l4 : Int) (l4r : iR l4) (s : im_S) (hv : vI s), I24 (l1, l2, l3, l4, s) → r24 (l1, l2, l3, l4, s) < n24 → ir gG rm_P L ys (d + 7) rm_p_X10_readText (24, [(0, (2, ((582 : Nat) : Int))), (1, (0, l1)), (2, (0, l2)), (3, (0, l3)), (4, (0, l4))], [], s) (fun r : im_Re => r.1 = none ∧ (vI r.2 ∧ Q r.2)) := by
    intro I24 r24 hB24 n24
    induction n24 with
    | zero => intro l1 l1r l2 l2r l3 l3r l4 l4r s hv hI hr; exact absurd hr (Nat.not_lt_zero _)
    | succ n24 ih24 =>
      intro l1 l1r l2 l2r l3 l3r l4 l4r s hv hI hr24
      obtain ⟨t24, ht24⟩ : ∃ t24 : Int × Int × Int × Int × im_S, t24 = (l1, l2, l3, l4, s) := ⟨_, rfl⟩
      rw [← ht24] at hr24
      have hW : W_readText_24 (fun b => I24 b ∧ r24 b < r24 t24) l1 l2 l3 l4 s Q := by have z := hB24 (l1, l2, l3, l4, s) hI; rw [ht24]; exact z
      have J289 : ∀ (l1 : Int) (l1r : iR l1) (l2 : Int) (l2r : iR l2) (l3 : Int) (l3r : iR l3) (l4 : Int) (l4r : iR l4) (s : im_S) (hv : vI s), W_readText_289 (fun b => I24 b ∧ r24 b < r24 t24) l1 l2 l3 l4 s Q → ir gG rm_P L ys (d + 7) rm_p_X10_readText (289, [(0, (2, ((582 : Nat) : Int))), (1, (0, l1)), (2, (0, l2)), (3, (0, l3)), (4, (0, l4))], [], s) (fun r : im_Re => r.1 = none ∧ (vI r.2 ∧ Q r.2)) := by
        intro l1 l1r l2 l2r l3 l3r l4 l4r s hv hW
        unfold W_readText_289 at hW
        refine ir_goto (pc' := 24) rfl rfl ?_
        refine ir_w [(0, (2, ((582 : Nat) : Int))), (1, (0, l1)), (2, (0, l2)), (3, (0, l3)), (4, (0, l4))] ⟨rfl, rfl, rfl, rfl, rfl, trivial⟩ ?_
        exact ih24 l1 l1r l2 l2r l3 l3r l4 l4r s hv hW.1 (Nat.lt_of_lt_of_le hW.2 (Nat.le_of_lt_succ hr24))
      have J285 : ∀ (l1 : Int) (l1r : iR l1) (l2 : Int) (l2r : iR l2) (l3 : Int) (l3r : iR l3) (l4 : Int) (l4r : iR l4) (s : im_S) (hv : vI s), W_readText_285 (fun b => I24 b ∧ r24 b < r24 t24) l1 l2 l3 l4 s Q → ir gG rm_P L ys (d + 7) rm_p_X10_readText (285, [(0, (2, ((582 : Nat) : Int))), (1, (0, l1)), (2, (0, l2)), (3, (0, l3)), (4, (0, l4))], [], s) (fun r : im_Re => r.1 = none ∧ (vI r.2 ∧ Q r.2)) := by
        intro l1 l1r l2 l2r l3 l3r l4 l4r s hv hW
        unfold W_readText_285 at hW
        refine ir_l (pc' := 286) rfl rfl rfl rfl rfl rfl ?_
        refine ir_cVV (pc' := 289) rfl rfl rfl rfl rfl (Nat.le_of_ble_eq_true rfl) oo_X10_cannot vg_582 (w_cannot L ys (d + 4) s hv  _ hW) (fun s3 hr => ?_)
        obtain ⟨s3v, hW⟩ := hr
        refine ir_w [(0, (2, ((582 : Nat) : Int))), (1, (0, l1)), (2, (0, l2)), (3, (0, l3)), (4, (0, l4))] ⟨rfl, rfl, rfl, rfl, rfl, trivial⟩ ?_
        exact J289 l1 l1r l2 l2r l3 l3r l4 l4r s3 s3v hW
      have J272 : ∀ (l1 : Int) (l1r : iR l1) (l2 : Int) (l2r : iR l2) (l3 : Int) (l3r : iR l3) (l5 : Int) (l5r : iR l5) (s : im_S) (hv : vI s), W_readText_272 (fun b => I24 b ∧ r24 b < r24 t24) l1 l2 l3 l5 s Q → ir gG rm_P L ys (d + 7) rm_p_X10_readText (272, [(0, (2, ((582 : Nat) : Int))), (1, (0, l1)), (2, (0, l2)), (3, (0, l3)), (5, (0, l5))], [], s) (fun r : im_Re => r.1 = none ∧ (vI r.2 ∧ Q r.2)) := by
        intro l1 l1r l2 l2r l3 l3r l5 l5r s hv hW
        unfold W_readText_272 at hW
        refine ir_k (pc' := 273) (v := (0, 1)) rfl rfl rfl (fun _ => rfl) ?_
        refine ir_s (pc' := 275) rfl rfl rfl rfl rfl rfl ?_
        refine ir_l (pc' := 277) rfl rfl rfl rfl rfl rfl ?_
        refine ir_k (pc' := 278) (v := (0, (-1))) rfl rfl rfl (fun _ => rfl) ?_
        refine ir_c_ne (pt := 285) (pc' := 281) rfl rfl rfl (fun c5 => ?_) (fun c5 => ?_)
        · have hW := hW.1 c5
          refine ir_w [(0, (2, ((582 : Nat) : Int))), (1, (0, l1)), (2, (0, l2)), (3, (0, l3)), (4, (0, 1))] ⟨rfl, rfl, rfl, rfl, rfl, trivial⟩ ?_
          exact J285 l1 l1r l2 l2r l3 l3r 1 (zR_i (Or.inr rfl)) s hv hW
        · have hW := hW.2 c5
          refine ir_l (pc' := 282) rfl rfl rfl rfl rfl rfl ?_
          refine ir_z_le (pt := 289) (pc' := 285) rfl rfl rfl (fun c6 => ?_) (fun c6 => ?_)
          · have hW := hW.1 c6
            refine ir_w [(0, (2, ((582 : Nat) : Int))), (1, (0, l1)), (2, (0, l2)), (3, (0, l3)), (4, (0, 1))] ⟨rfl, rfl, rfl, rfl, rfl, trivial⟩ ?_
            exact J289 l1 l1r l2 l2r l3 l3r 1 (zR_i (Or.inr rfl)) s hv hW
          · have hW := hW.2 c6
            refine ir_w [(0, (2, ((582 : Nat) : Int))), (1, (0, l1)), (2, (0, l2)), (3, (0, l3)), (4, (0, 1))] ⟨rfl, rfl, rfl, rfl, rfl, trivial⟩ ?_
            exact J285 l1 l1r l2 l2r l3 l3r 1 (zR_i (Or.inr rfl)) s hv hW
      have J173 : ∀ (l1 : Int) (l1r : iR l1) (l2 : Int) (l2r : iR l2) (l4 : Int) (l4r : iR l4) (l5 : Int) (l5r : iR l5) (s : im_S) (hv : vI s), W_readText_173 (fun b => I24 b ∧ r24 b < r24 t24) l1 l2 l4 l5 s Q → ir gG rm_P L ys (d + 7) rm_p_X10_readText (173, [(0, (2, ((582 : Nat) : Int))), (1, (0, l1)), (2, (0, l2)), (4, (0, l4)), (5, (0, l5))], [], s) (fun r : im_Re => r.1 = none ∧ (vI r.2 ∧ Q r.2)) := by
        intro l1 l1r l2 l2r l4 l4r l5 l5r s hv hW
        unfold W_readText_173 at hW
        refine ir_l (pc' := 174) rfl rfl rfl rfl rfl rfl ?_
        refine ir_l (pc' := 176) rfl rfl rfl rfl rfl rfl ?_
        refine ir_k (pc' := 178) (v := (0, 38)) rfl rfl rfl (fun _ => rfl) ?_
        have J208 : ∀ v207 : Int, iR v207 → ((W_settle v207 s (fun s209 => (∀ v411 : Int, v411 = (if ¬ (l5 = 38) then (-3) else (-2)) → (W_wait1 v411 s209 (fun s413 => ((iR ((wgf s413 4) + 1)) ∧ (∀ s417, s417 = wpf s413 4 ((wgf s413 4) + 1) → (W_readText_289 (fun b => I24 b ∧ r24 b < r24 t24) l1 l2 1 l4 s417 Q))))))))) → ir gG rm_P L ys (d + 7) rm_p_X10_readText (188, [(0, (2, ((582 : Nat) : Int))), (1, (0, l1)), (2, (0, l2)), (4, (0, l4)), (5, (0, l5))], [(0, v207), (2, ((582 : Nat) : Int))], s) (fun r : im_Re => r.1 = none ∧ (vI r.2 ∧ Q r.2)) := by
          intro v207 v207r hW
          refine ir_cVV (pc' := 191) rfl rfl rfl rfl rfl (Nat.le_of_ble_eq_true rfl) oo_X10_settle vg_582 (w_settle L ys (d + 5) s hv v207 v207r _ hW) (fun s209 hr => ?_)
          obtain ⟨s209v, hW⟩ := hr
          refine ir_l (pc' := 192) rfl rfl rfl rfl rfl rfl ?_
          refine ir_l (pc' := 194) rfl rfl rfl rfl rfl rfl ?_
          refine ir_k (pc' := 196) (v := (0, 38)) rfl rfl rfl (fun _ => rfl) ?_
          have J412 : ∀ v411 : Int, iR v411 → ((W_wait1 v411 s209 (fun s413 => ((iR ((wgf s413 4) + 1)) ∧ (∀ s417, s417 = wpf s413 4 ((wgf s413 4) + 1) → (W_readText_289 (fun b => I24 b ∧ r24 b < r24 t24) l1 l2 1 l4 s417 Q)))))) → ir gG rm_P L ys (d + 7) rm_p_X10_readText (206, [(0, (2, ((582 : Nat) : Int))), (1, (0, l1)), (2, (0, l2)), (4, (0, l4))], [(0, v411), (2, ((582 : Nat) : Int))], s209) (fun r : im_Re => r.1 = none ∧ (vI r.2 ∧ Q r.2)) := by
            intro v411 v411r hW
            refine ir_cVV (pc' := 209) rfl rfl rfl rfl rfl (Nat.le_of_ble_eq_true rfl) oo_X10_wait1 vg_582 (w_wait1 L ys (d + 6) s209 s209v v411 v411r _ hW) (fun s413 hr => ?_)
            obtain ⟨s413v, hW⟩ := hr
            obtain ⟨h416, hW⟩ := hW
            refine ir_k (pc' := 210) (v := (0, 1)) rfl rfl rfl (fun _ => rfl) ?_
            refine ir_s (pc' := 211) rfl rfl rfl rfl rfl rfl ?_
            refine ir_l (pc' := 212) rfl rfl rfl rfl rfl rfl ?_
            refine ir_x (pc' := 213) rfl rfl rfl (fun _ => rfl) ?_
            refine ir_vgi (pc' := 216) rfl rfl rfl rfl rfl s413v (fun r415 => ?_)
            refine ir_k (pc' := 217) (v := (0, 1)) rfl rfl rfl (fun _ => rfl) ?_
            refine ir_add (pc' := 218) rfl rfl h416.1 h416.2 ?_
            refine ir_vpi (pc' := 221) rfl rfl rfl rfl rfl rfl rfl s413v h416 (fun s417 s417e s417v => ?_)
            have hW := hW s417 s417e
            refine ir_goto (pc' := 289) rfl rfl ?_
            refine ir_w [(0, (2, ((582 : Nat) : Int))), (1, (0, l1)), (2, (0, l2)), (3, (0, 1)), (4, (0, l4))] ⟨rfl, rfl, rfl, rfl, rfl, trivial⟩ ?_
            exact J289 l1 l1r l2 l2r 1 (zR_i (Or.inr rfl)) l4 l4r s417 s417v hW
          refine ir_c_ne (pt := 204) (pc' := 199) rfl rfl rfl (fun c211 => ?_) (fun c211 => ?_)
          · refine ir_k (pc' := 206) (v := (0, (-3))) rfl rfl rfl (fun _ => rfl) ?_
            refine ir_w [(0, (2, ((582 : Nat) : Int))), (1, (0, l1)), (2, (0, l2)), (4, (0, l4))] ⟨rfl, rfl, rfl, rfl, trivial⟩ ?_
            exact J412 (-3) (⟨by decide, by decide⟩ : iR (-3)) (hW _ (by rw [if_pos c211]))
          · refine ir_k (pc' := 201) (v := (0, (-2))) rfl rfl rfl (fun _ => rfl) ?_
            refine ir_goto (pc' := 206) rfl rfl ?_
            refine ir_w [(0, (2, ((582 : Nat) : Int))), (1, (0, l1)), (2, (0, l2)), (4, (0, l4))] ⟨rfl, rfl, rfl, rfl, trivial⟩ ?_
            exact J412 (-2) (⟨by decide, by decide⟩ : iR (-2)) (hW _ (by rw [if_neg (by omega)]))
        refine ir_c_ne (pt := 186) (pc' := 181) rfl rfl rfl (fun c7 => ?_) (fun c7 => ?_)
        · refine ir_k (pc' := 188) (v := (0, (-3))) rfl rfl rfl (fun _ => rfl) ?_
          refine ir_w [(0, (2, ((582 : Nat) : Int))), (1, (0, l1)), (2, (0, l2)), (4, (0, l4)), (5, (0, l5))] ⟨rfl, rfl, rfl, rfl, rfl, trivial⟩ ?_
          exact J208 (-3) (⟨by decide, by decide⟩ : iR (-3)) (hW _ (by rw [if_pos c7]))
        · refine ir_k (pc' := 183) (v := (0, (-2))) rfl rfl rfl (fun _ => rfl) ?_
          refine ir_goto (pc' := 188) rfl rfl ?_
          refine ir_w [(0, (2, ((582 : Nat) : Int))), (1, (0, l1)), (2, (0, l2)), (4, (0, l4)), (5, (0, l5))] ⟨rfl, rfl, rfl, rfl, rfl, trivial⟩ ?_
          exact J208 (-2) (⟨by decide, by decide⟩ : iR (-2)) (hW _ (by rw [if_neg (by omega)]))
      have J139 : ∀ (l1 : Int) (l1r : iR l1) (l2 : Int) (l2r : iR l2) (l3 : Int) (l3r : iR l3) (l4 : Int) (l4r : iR l4) (l5 : Int) (l5r : iR l5) (s : im_S) (hv : vI s), W_readText_139 (fun b => I24 b ∧ r24 b < r24 t24) l1 l2 l3 l4 l5 s Q → ir gG rm_P L ys (d + 7) rm_p_X10_readText (139, [(0, (2, ((582 : Nat) : Int))), (1, (0, l1)), (2, (0, l2)), (3, (0, l3)), (4, (0, l4)), (5, (0, l5))], [], s) (fun r : im_Re => r.1 = none ∧ (vI r.2 ∧ Q r.2)) := by
        intro l1 l1r l2 l2r l3 l3r l4 l4r l5 l5r s hv hW
        unfold W_readText_139 at hW
        refine ir_l (pc' := 140) rfl rfl rfl rfl rfl rfl ?_
        refine ir_z_eq (pt := 159) (pc' := 143) rfl rfl rfl (fun c418 => ?_) (fun c418 => ?_)
        · have hW := hW.1 c418
          refine ir_l (pc' := 161) rfl rfl rfl rfl rfl rfl ?_
          refine ir_k (pc' := 163) (v := (0, 38)) rfl rfl rfl (fun _ => rfl) ?_
          refine ir_c_eq (pt := 173) (pc' := 166) rfl rfl rfl (fun c419 => ?_) (fun c419 => ?_)
          · have hW := hW.1 c419
            refine ir_w [(0, (2, ((582 : Nat) : Int))), (1, (0, l1)), (2, (0, l2)), (4, (0, l4)), (5, (0, l5))] ⟨rfl, rfl, rfl, rfl, rfl, trivial⟩ ?_
            exact J173 l1 l1r l2 l2r l4 l4r l5 l5r s hv hW
          · have hW := hW.2 c419
            refine ir_l (pc' := 168) rfl rfl rfl rfl rfl rfl ?_
            refine ir_k (pc' := 170) (v := (0, 124)) rfl rfl rfl (fun _ => rfl) ?_
            refine ir_c_ne (pt := 224) (pc' := 173) rfl rfl rfl (fun c420 => ?_) (fun c420 => ?_)
            · have hW := hW.1 c420
              refine ir_l (pc' := 226) rfl rfl rfl rfl rfl rfl ?_
              refine ir_k (pc' := 228) (v := (0, 93)) rfl rfl rfl (fun _ => rfl) ?_
              refine ir_c_ne (pt := 272) (pc' := 231) rfl rfl rfl (fun c421 => ?_) (fun c421 => ?_)
              · have hW := hW.1 c421
                refine ir_w [(0, (2, ((582 : Nat) : Int))), (1, (0, l1)), (2, (0, l2)), (3, (0, l3)), (5, (0, l5))] ⟨rfl, rfl, rfl, rfl, rfl, trivial⟩ ?_
                exact J272 l1 l1r l2 l2r l3 l3r l5 l5r s hv hW
              · have hW := hW.2 c421
                refine ir_l (pc' := 232) rfl rfl rfl rfl rfl rfl ?_
                refine ir_z_le (pt := 272) (pc' := 235) rfl rfl rfl (fun c422 => ?_) (fun c422 => ?_)
                · have hW := hW.1 c422
                  refine ir_w [(0, (2, ((582 : Nat) : Int))), (1, (0, l1)), (2, (0, l2)), (3, (0, l3)), (5, (0, l5))] ⟨rfl, rfl, rfl, rfl, rfl, trivial⟩ ?_
                  exact J272 l1 l1r l2 l2r l3 l3r l5 l5r s hv hW
                · have hW := hW.2 c422
                  refine ir_l (pc' := 236) rfl rfl rfl rfl rfl rfl ?_
                  refine ir_k (pc' := 238) (v := (0, (-3))) rfl rfl rfl (fun _ => rfl) ?_
                  refine ir_cVV (pc' := 241) rfl rfl rfl rfl rfl (Nat.le_of_ble_eq_true rfl) oo_X10_settle vg_582 (w_settle L ys (d + 5) s hv (-3) (⟨by decide, by decide⟩ : iR (-3)) _ hW) (fun s423 hr => ?_)
                  obtain ⟨s423v, hW⟩ := hr
                  obtain ⟨h426, hW⟩ := hW
                  refine ir_l (pc' := 242) rfl rfl rfl rfl rfl rfl ?_
                  refine ir_x (pc' := 243) rfl rfl rfl (fun _ => rfl) ?_
                  refine ir_vgi (pc' := 246) rfl rfl rfl rfl rfl s423v (fun r425 => ?_)
                  refine ir_k (pc' := 247) (v := (0, 1)) rfl rfl rfl (fun _ => rfl) ?_
                  refine ir_sub (pc' := 248) rfl rfl h426.1 h426.2 ?_
                  refine ir_vpi (pc' := 251) rfl rfl rfl rfl rfl rfl rfl s423v h426 (fun s427 s427e s427v => ?_)
                  have hW := hW s427 s427e
                  obtain ⟨h428, h430, hW⟩ := hW
                  refine ir_inc (pc' := 254) rfl rfl rfl rfl rfl h428.1 h428.2 ?_
                  refine ir_l (pc' := 255) rfl rfl rfl rfl rfl rfl ?_
                  refine ir_x (pc' := 256) rfl rfl rfl (fun _ => rfl) ?_
                  refine ir_vgi (pc' := 259) rfl rfl rfl rfl rfl s427v (fun r429 => ?_)
                  refine ir_k (pc' := 260) (v := (0, 1)) rfl rfl rfl (fun _ => rfl) ?_
                  refine ir_add (pc' := 261) rfl rfl h430.1 h430.2 ?_
                  refine ir_vpi (pc' := 264) rfl rfl rfl rfl rfl rfl rfl s427v h430 (fun s431 s431e s431v => ?_)
                  have hW := hW s431 s431e
                  refine ir_l (pc' := 265) rfl rfl rfl rfl rfl rfl ?_
                  refine ir_k (pc' := 266) (v := (0, (-1))) rfl rfl rfl (fun _ => rfl) ?_
                  refine ir_cVV (pc' := 269) rfl rfl rfl rfl rfl (Nat.le_of_ble_eq_true rfl) oo_X10_settle vg_582 (w_settle L ys (d + 5) s431 s431v (-1) (⟨by decide, by decide⟩ : iR (-1)) _ hW) (fun s432 hr => ?_)
                  obtain ⟨s432v, hW⟩ := hr
                  refine ir_goto (pc' := 289) rfl rfl ?_
                  refine ir_w [(0, (2, ((582 : Nat) : Int))), (1, (0, (l1 + (-1)))), (2, (0, l2)), (3, (0, l3)), (4, (0, l4))] ⟨rfl, rfl, rfl, rfl, rfl, trivial⟩ ?_
                  exact J289 (l1 + (-1)) h428 l2 l2r l3 l3r l4 l4r s432 s432v hW
            · have hW := hW.2 c420
              refine ir_w [(0, (2, ((582 : Nat) : Int))), (1, (0, l1)), (2, (0, l2)), (4, (0, l4)), (5, (0, l5))] ⟨rfl, rfl, rfl, rfl, rfl, trivial⟩ ?_
              exact J173 l1 l1r l2 l2r l4 l4r l5 l5r s hv hW
        · have hW := hW.2 c418
          refine ir_l (pc' := 144) rfl rfl rfl rfl rfl rfl ?_
          refine ir_cVV (pc' := 147) rfl rfl rfl rfl rfl (Nat.le_of_ble_eq_true rfl) oo_X10_readAtom vg_582 (w_readAtom L ys d s hv  _ hW) (fun s434 hr => ?_)
          obtain ⟨s434v, hW⟩ := hr
          refine ir_k (pc' := 148) (v := (0, 0)) rfl rfl rfl (fun _ => rfl) ?_
          refine ir_s (pc' := 149) rfl rfl rfl rfl rfl rfl ?_
          refine ir_k (pc' := 150) (v := (0, 0)) rfl rfl rfl (fun _ => rfl) ?_
          refine ir_s (pc' := 151) rfl rfl rfl rfl rfl rfl ?_
          refine ir_l (pc' := 152) rfl rfl rfl rfl rfl rfl ?_
          refine ir_k (pc' := 153) (v := (0, (-1))) rfl rfl rfl (fun _ => rfl) ?_
          refine ir_cVV (pc' := 156) rfl rfl rfl rfl rfl (Nat.le_of_ble_eq_true rfl) oo_X10_settle vg_582 (w_settle L ys (d + 5) s434 s434v (-1) (⟨by decide, by decide⟩ : iR (-1)) _ hW) (fun s436 hr => ?_)
          obtain ⟨s436v, hW⟩ := hr
          refine ir_goto (pc' := 289) rfl rfl ?_
          refine ir_w [(0, (2, ((582 : Nat) : Int))), (1, (0, l1)), (2, (0, 0)), (3, (0, 0)), (4, (0, l4))] ⟨rfl, rfl, rfl, rfl, rfl, trivial⟩ ?_
          exact J289 l1 l1r 0 (zR_i (Or.inl rfl)) 0 (zR_i (Or.inl rfl)) l4 l4r s436 s436v hW
      have J118 : ∀ (l1 : Int) (l1r : iR l1) (l3 : Int) (l3r : iR l3) (l4 : Int) (l4r : iR l4) (s : im_S) (hv : vI s), W_readText_118 (fun b => I24 b ∧ r24 b < r24 t24) l1 l3 l4 s Q → ir gG rm_P L ys (d + 7) rm_p_X10_readText (118, [(0, (2, ((582 : Nat) : Int))), (1, (0, l1)), (3, (0, l3)), (4, (0, l4))], [], s) (fun r : im_Re => r.1 = none ∧ (vI r.2 ∧ Q r.2)) := by
        intro l1 l1r l3 l3r l4 l4r s hv hW
        unfold W_readText_118 at hW
        refine ir_k (pc' := 119) (v := (0, 0)) rfl rfl rfl (fun _ => rfl) ?_
        refine ir_s (pc' := 120) rfl rfl rfl rfl rfl rfl ?_
        refine ir_l (pc' := 121) rfl rfl rfl rfl rfl rfl ?_
        refine ir_k (pc' := 123) (v := (0, (-4))) rfl rfl rfl (fun _ => rfl) ?_
        refine ir_cVV (pc' := 126) rfl rfl rfl rfl rfl (Nat.le_of_ble_eq_true rfl) oo_X10_wait1 vg_582 (w_wait1 L ys (d + 6) s hv (-4) (⟨by decide, by decide⟩ : iR (-4)) _ hW) (fun s438 hr => ?_)
        obtain ⟨s438v, hW⟩ := hr
        obtain ⟨h441, hW⟩ := hW
        refine ir_l (pc' := 127) rfl rfl rfl rfl rfl rfl ?_
        refine ir_x (pc' := 128) rfl rfl rfl (fun _ => rfl) ?_
        refine ir_vgi (pc' := 131) rfl rfl rfl rfl rfl s438v (fun r440 => ?_)
        refine ir_k (pc' := 132) (v := (0, 1)) rfl rfl rfl (fun _ => rfl) ?_
        refine ir_add (pc' := 133) rfl rfl h441.1 h441.2 ?_
        refine ir_vpi (pc' := 136) rfl rfl rfl rfl rfl rfl rfl s438v h441 (fun s442 s442e s442v => ?_)
        have hW := hW s442 s442e
        refine ir_goto (pc' := 289) rfl rfl ?_
        refine ir_w [(0, (2, ((582 : Nat) : Int))), (1, (0, l1)), (2, (0, 0)), (3, (0, l3)), (4, (0, l4))] ⟨rfl, rfl, rfl, rfl, rfl, trivial⟩ ?_
        exact J289 l1 l1r 0 (zR_i (Or.inl rfl)) l3 l3r l4 l4r s442 s442v hW
      have J89 : ∀ (l1 : Int) (l1r : iR l1) (l2 : Int) (l2r : iR l2) (l3 : Int) (l3r : iR l3) (l4 : Int) (l4r : iR l4) (l5 : Int) (l5r : iR l5) (s : im_S) (hv : vI s), W_readText_89 (fun b => I24 b ∧ r24 b < r24 t24) l1 l2 l3 l4 l5 s Q → ir gG rm_P L ys (d + 7) rm_p_X10_readText (89, [(0, (2, ((582 : Nat) : Int))), (1, (0, l1)), (2, (0, l2)), (3, (0, l3)), (4, (0, l4)), (5, (0, l5))], [], s) (fun r : im_Re => r.1 = none ∧ (vI r.2 ∧ Q r.2)) := by
        intro l1 l1r l2 l2r l3 l3r l4 l4r l5 l5r s hv hW
        unfold W_readText_89 at hW
        refine ir_l (pc' := 90) rfl rfl rfl rfl rfl rfl ?_
        refine ir_z_eq (pt := 139) (pc' := 93) rfl rfl rfl (fun c443 => ?_) (fun c443 => ?_)
        · have hW := hW.1 c443
          refine ir_w [(0, (2, ((582 : Nat) : Int))), (1, (0, l1)), (2, (0, l2)), (3, (0, l3)), (4, (0, l4)), (5, (0, l5))] ⟨rfl, rfl, rfl, rfl, rfl, rfl, trivial⟩ ?_
          exact J139 l1 l1r l2 l2r l3 l3r l4 l4r l5 l5r s hv hW
        · have hW := hW.2 c443
          refine ir_l (pc' := 95) rfl rfl rfl rfl rfl rfl ?_
          refine ir_k (pc' := 97) (v := (0, 91)) rfl rfl rfl (fun _ => rfl) ?_
          refine ir_c_ne (pt := 139) (pc' := 100) rfl rfl rfl (fun c444 => ?_) (fun c444 => ?_)
          · have hW := hW.1 c444
            refine ir_w [(0, (2, ((582 : Nat) : Int))), (1, (0, l1)), (2, (0, l2)), (3, (0, l3)), (4, (0, l4)), (5, (0, l5))] ⟨rfl, rfl, rfl, rfl, rfl, rfl, trivial⟩ ?_
            exact J139 l1 l1r l2 l2r l3 l3r l4 l4r l5 l5r s hv hW
          · have hW := hW.2 c444
            obtain ⟨h445, hW⟩ := hW
            refine ir_inc (pc' := 103) rfl rfl rfl rfl rfl h445.1 h445.2 ?_
            refine ir_l (pc' := 104) rfl rfl rfl rfl rfl rfl ?_
            refine ir_k (pc' := 106) (v := (0, 10)) rfl rfl rfl (fun _ => rfl) ?_
            refine ir_c_le (pt := 118) (pc' := 109) rfl rfl rfl (fun c446 => ?_) (fun c446 => ?_)
            · have hW := hW.1 c446
              refine ir_w [(0, (2, ((582 : Nat) : Int))), (1, (0, (l1 + 1))), (3, (0, l3)), (4, (0, l4))] ⟨rfl, rfl, rfl, rfl, trivial⟩ ?_
              exact J118 (l1 + 1) h445 l3 l3r l4 l4r s hv hW
            · have hW := hW.2 c446
              refine ir_l (pc' := 110) rfl rfl rfl rfl rfl rfl ?_
              refine ir_k (pc' := 111) (v := (0, 3)) rfl rfl rfl (fun _ => rfl) ?_
              refine ir_l (pc' := 112) rfl rfl rfl rfl rfl rfl ?_
              refine ir_vgi (pc' := 115) rfl rfl rfl rfl rfl hv (fun r447 => ?_)
              refine ir_cVV (pc' := 118) rfl rfl rfl rfl rfl (Nat.le_of_ble_eq_true rfl) oo_X10_fail vg_582 (w_fail L ys (d + 6) s hv 3 (⟨by decide, by decide⟩ : iR 3) (wgf s 4) r447 _ hW) (fun s448 hr => ?_)
              obtain ⟨s448v, hW⟩ := hr
              refine ir_w [(0, (2, ((582 : Nat) : Int))), (1, (0, (l1 + 1))), (3, (0, l3)), (4, (0, l4))] ⟨rfl, rfl, rfl, rfl, trivial⟩ ?_
              exact J118 (l1 + 1) h445 l3 l3r l4 l4r s448 s448v hW
      have J71 : ∀ (l1 : Int) (l1r : iR l1) (l2 : Int) (l2r : iR l2) (l3 : Int) (l3r : iR l3) (l4 : Int) (l4r : iR l4) (s : im_S) (hv : vI s), W_readText_71 (fun b => I24 b ∧ r24 b < r24 t24) l1 l2 l3 l4 s Q → ir gG rm_P L ys (d + 7) rm_p_X10_readText (71, [(0, (2, ((582 : Nat) : Int))), (1, (0, l1)), (2, (0, l2)), (3, (0, l3)), (4, (0, l4))], [], s) (fun r : im_Re => r.1 = none ∧ (vI r.2 ∧ Q r.2)) := by
        intro l1 l1r l2 l2r l3 l3r l4 l4r s hv hW
        unfold W_readText_71 at hW
        refine ir_l (pc' := 72) rfl rfl rfl rfl rfl rfl ?_
        refine ir_k (pc' := 73) (v := (0, (-1))) rfl rfl rfl (fun _ => rfl) ?_
        refine ir_cVV (pc' := 76) rfl rfl rfl rfl rfl (Nat.le_of_ble_eq_true rfl) oo_X10_wait1 vg_582 (w_wait1 L ys (d + 6) s hv (-1) (⟨by decide, by decide⟩ : iR (-1)) _ hW) (fun s450 hr => ?_)
        obtain ⟨s450v, hW⟩ := hr
        obtain ⟨h453, hW⟩ := hW
        refine ir_l (pc' := 77) rfl rfl rfl rfl rfl rfl ?_
        refine ir_x (pc' := 78) rfl rfl rfl (fun _ => rfl) ?_
        refine ir_vgi (pc' := 81) rfl rfl rfl rfl rfl s450v (fun r452 => ?_)
        refine ir_k (pc' := 82) (v := (0, 1)) rfl rfl rfl (fun _ => rfl) ?_
        refine ir_add (pc' := 83) rfl rfl h453.1 h453.2 ?_
        refine ir_vpi (pc' := 86) rfl rfl rfl rfl rfl rfl rfl s450v h453 (fun s454 s454e s454v => ?_)
        have hW := hW s454 s454e
        refine ir_goto (pc' := 289) rfl rfl ?_
        refine ir_w [(0, (2, ((582 : Nat) : Int))), (1, (0, l1)), (2, (0, l2)), (3, (0, l3)), (4, (0, l4))] ⟨rfl, rfl, rfl, rfl, rfl, trivial⟩ ?_
        exact J289 l1 l1r l2 l2r l3 l3r l4 l4r s454 s454v hW
      unfold W_readText_24 at hW
      refine ir_l (pc' := 26) rfl rfl rfl rfl rfl rfl ?_
      refine ir_z_ne (pt := 292) (pc' := 29) rfl rfl rfl (fun c455 => ?_) (fun c455 => ?_)
      · have hW := hW.1 c455
        refine ir_w [(0, (2, ((582 : Nat) : Int)))] ⟨rfl, trivial⟩ ?_
        exact J292 s hv hW
      · have hW := hW.2 c455
        refine ir_l (pc' := 30) rfl rfl rfl rfl rfl rfl ?_
        refine ir_cVI (pc' := 33) rfl rfl rfl rfl rfl (Nat.le_of_ble_eq_true rfl) oo_X10_good vg_582 (w_good L ys (d + 6) s hv  _ hW) (fun z457 s456 hr => ?_)
        obtain ⟨s456v, z457r, hW⟩ := hr
        refine ir_z_eq (pt := 292) (pc' := 36) rfl rfl rfl (fun c458 => ?_) (fun c458 => ?_)
        · have hW := hW.1 c458
          refine ir_w [(0, (2, ((582 : Nat) : Int)))] ⟨rfl, trivial⟩ ?_
          exact J292 s456 s456v hW
        · have hW := hW.2 c458
          refine ir_l (pc' := 37) rfl rfl rfl rfl rfl rfl ?_
          refine ir_cVI (pc' := 40) rfl rfl rfl rfl rfl (Nat.le_of_ble_eq_true rfl) oo_X10_peek vg_582 (w_peek L ys (d + 6) s456 s456v  _ hW) (fun z460 s459 hr => ?_)
          obtain ⟨s459v, z460r, hW⟩ := hr
          refine ir_s (pc' := 42) rfl rfl rfl rfl rfl rfl ?_
          refine ir_l (pc' := 43) rfl rfl rfl rfl rfl rfl ?_
          refine ir_z_eq (pt := 89) (pc' := 46) rfl rfl rfl (fun c461 => ?_) (fun c461 => ?_)
          · have hW := hW.1 c461
            refine ir_w [(0, (2, ((582 : Nat) : Int))), (1, (0, l1)), (2, (0, l2)), (3, (0, l3)), (4, (0, l4)), (5, (0, z460))] ⟨rfl, rfl, rfl, rfl, rfl, rfl, trivial⟩ ?_
            exact J89 l1 l1r l2 l2r l3 l3r l4 l4r z460 z460r s459 s459v hW
          · have hW := hW.2 c461
            refine ir_l (pc' := 48) rfl rfl rfl rfl rfl rfl ?_
            refine ir_k (pc' := 50) (v := (0, 126)) rfl rfl rfl (fun _ => rfl) ?_
            refine ir_c_ne (pt := 89) (pc' := 53) rfl rfl rfl (fun c462 => ?_) (fun c462 => ?_)
            · have hW := hW.1 c462
              refine ir_w [(0, (2, ((582 : Nat) : Int))), (1, (0, l1)), (2, (0, l2)), (3, (0, l3)), (4, (0, l4)), (5, (0, z460))] ⟨rfl, rfl, rfl, rfl, rfl, rfl, trivial⟩ ?_
              exact J89 l1 l1r l2 l2r l3 l3r l4 l4r z460 z460r s459 s459v hW
            · have hW := hW.2 c462
              obtain ⟨h463, hW⟩ := hW
              refine ir_inc (pc' := 56) rfl rfl rfl rfl rfl h463.1 h463.2 ?_
              refine ir_l (pc' := 57) rfl rfl rfl rfl rfl rfl ?_
              refine ir_k (pc' := 59) (v := (0, 10)) rfl rfl rfl (fun _ => rfl) ?_
              refine ir_c_le (pt := 71) (pc' := 62) rfl rfl rfl (fun c464 => ?_) (fun c464 => ?_)
              · have hW := hW.1 c464
                refine ir_w [(0, (2, ((582 : Nat) : Int))), (1, (0, l1)), (2, (0, (l2 + 1))), (3, (0, l3)), (4, (0, l4))] ⟨rfl, rfl, rfl, rfl, rfl, trivial⟩ ?_
                exact J71 l1 l1r (l2 + 1) h463 l3 l3r l4 l4r s459 s459v hW
              · have hW := hW.2 c464
                refine ir_l (pc' := 63) rfl rfl rfl rfl rfl rfl ?_
                refine ir_k (pc' := 64) (v := (0, 3)) rfl rfl rfl (fun _ => rfl) ?_
                refine ir_l (pc' := 65) rfl rfl rfl rfl rfl rfl ?_
                refine ir_vgi (pc' := 68) rfl rfl rfl rfl rfl s459v (fun r465 => ?_)
                refine ir_cVV (pc' := 71) rfl rfl rfl rfl rfl (Nat.le_of_ble_eq_true rfl) oo_X10_fail vg_582 (w_fail L ys (d + 6) s459 s459v 3 (⟨by decide, by decide⟩ : iR 3) (wgf s459 4) r465 _ hW) (fun s466 hr => ?_)
                obtain ⟨s466v, hW⟩ := hr
                refine ir_w [(0, (2, ((582 : Nat) : Int))), (1, (0, l1)), (2, (0, (l2 + 1))), (3, (0, l3)), (4, (0, l4))] ⟨rfl, rfl, rfl, rfl, rfl, trivial⟩ ?_
                exact J71 l1 l1r (l2 + 1) h463 l3 l3r l4 l4r s466 s466v hW
  unfold W_readText at hW
  refine ir_l (pc' := 1) rfl rfl rfl rfl rfl rfl ?_
  refine ir_k (pc' := 2) (v := (0, 0)) rfl rfl rfl (fun _ => rfl) ?_
  refine ir_vpi (pc' := 5) rfl rfl rfl rfl rfl rfl rfl hv (zR_i (Or.inl rfl)) (fun s468 s468e s468v => ?_)
  have hW := hW s468 s468e
  refine ir_l (pc' := 6) rfl rfl rfl rfl rfl rfl ?_
  refine ir_k (pc' := 7) (v := (0, 0)) rfl rfl rfl (fun _ => rfl) ?_
  refine ir_vpi (pc' := 10) rfl rfl rfl rfl rfl rfl rfl s468v (zR_i (Or.inl rfl)) (fun s469 s469e s469v => ?_)
  have hW := hW s469 s469e
  refine ir_l (pc' := 11) rfl rfl rfl rfl rfl rfl ?_
  refine ir_k (pc' := 12) (v := (0, 0)) rfl rfl rfl (fun _ => rfl) ?_
  refine ir_vpi (pc' := 15) rfl rfl rfl rfl rfl rfl rfl s469v (zR_i (Or.inl rfl)) (fun s470 s470e s470v => ?_)
  have hW := hW s470 s470e
  refine ir_k (pc' := 16) (v := (0, 0)) rfl rfl rfl (fun _ => rfl) ?_
  refine ir_s (pc' := 17) rfl rfl rfl rfl rfl rfl ?_
  refine ir_k (pc' := 18) (v := (0, 0)) rfl rfl rfl (fun _ => rfl) ?_
  refine ir_s (pc' := 19) rfl rfl rfl rfl rfl rfl ?_
  refine ir_k (pc' := 20) (v := (0, 1)) rfl rfl rfl (fun _ => rfl) ?_
  refine ir_s (pc' := 21) rfl rfl rfl rfl rfl rfl ?_
  refine ir_k (pc' := 22) (v := (0, 0)) rfl rfl rfl (fun _ => rfl) ?_
  refine ir_s (pc' := 24) rfl rfl rfl rfl rfl rfl ?_
  refine ir_w [(0, (2, ((582 : Nat) : Int))), (1, (0, 0)), (2, (0, 0)), (3, (0, 1)), (4, (0, 0))] ⟨rfl, rfl, rfl, rfl, rfl, trivial⟩ ?_
  obtain ⟨I9, r9, hI9, hB9⟩ := hW
  exact J24 I9 r9 hB9 _ 0 (zR_i (Or.inl rfl)) 0 (zR_i (Or.inl rfl)) 1 (zR_i (Or.inr rfl)) 0 (zR_i (Or.inl rfl)) s470 s470v hI9 (Nat.lt_succ_self _)
