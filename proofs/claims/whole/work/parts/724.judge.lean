/-! judge of the reference, lifted by program -/
def W_judge_31 (K31 : Int × Int × Int × Int × im_S → Prop) (l1 : Int) (l2 : Int) (l3 : Int) (l4 : Int) (l5 : Int) (s : im_S) (Q : Int → im_S → Prop) : Prop := (W_cells s (fun z2 s1 => ((z2 ≤ l5 → (W_holdingMany s1 (fun z5 s4 => ((l1 = 0 → (∀ v207 : Int, v207 = (if z5 ≤ 0 then 0 else 1) → (Q v207 s4))) ∧ (l1 = 1 → (W_cells s4 (fun z210 s209 => (∀ v411 : Int, v411 = (if ¬ (z5 = z210) then 0 else 1) → (Q v411 s209))))) ∧ (l1 = 2 → (Q l2 s4)) ∧ (l1 = 3 → (Q l3 s4)) ∧ (l1 = 4 → (Q l4 s4)) ∧ (l1 = 5 → (∀ v613 : Int, v613 = (if z5 ≤ 0 then 0 else (if ¬ ((l2.tmod 2) = 1) then 0 else 1)) → (Q v613 s4))) ∧ (l1 = 6 → (∀ v815 : Int, v815 = (if z5 ≤ 0 then 0 else (if ¬ ((l3.tmod 2) = 1) then 0 else 1)) → (Q v815 s4))) ∧ (l1 = 7 → ((0 ≤ (0 : Int) ∧ (0 : Int) < 200) ∧ (∀ v1019 : Int, v1019 = (if (wga s4 618 0) = 0 then 0 else 1) → (Q v1019 s4)))) ∧ ((l1 < 0 ∨ 7 < l1) → (W_cells s4 (fun z1022 s1021 => ((0 ≤ (z1022 - 1) ∧ (z1022 - 1) < 200) ∧ (∀ v1226 : Int, v1226 = (if (wga s1021 618 (z1022 - 1)) = 0 then 0 else 1) → (Q v1226 s1021)))))))))) ∧ (¬ (z2 ≤ l5) → ((0 ≤ l5 ∧ l5 < 200) ∧ (¬ ((wga s1 618 l5) = 0) → ¬ (l2 = (-2)) → iR (l5 - 1)) ∧ (¬ ((wga s1 618 l5) = 0) → ¬ (l2 = (-2)) → ¬ (l3 = (l5 - 1)) → iR (l4 + 1)) ∧ (¬ ((wga s1 618 l5) = 0) → ¬ (l2 = (-2)) → l3 = (l5 - 1) → ¬ (l2 = l5) → iR (l4 + 0)) ∧ (¬ ((wga s1 618 l5) = 0) → ¬ (l2 = (-2)) → l3 = (l5 - 1) → l2 = l5 → iR (l4 + 1)) ∧ (¬ ((wga s1 618 l5) = 0) → l2 = (-2) → iR (l5 - 1)) ∧ (¬ ((wga s1 618 l5) = 0) → l2 = (-2) → ¬ (l3 = (l5 - 1)) → iR (l4 + 1)) ∧ (¬ ((wga s1 618 l5) = 0) → l2 = (-2) → l3 = (l5 - 1) → ¬ (l5 = l5) → iR (l4 + 0)) ∧ (¬ ((wga s1 618 l5) = 0) → l2 = (-2) → l3 = (l5 - 1) → l5 = l5 → iR (l4 + 1)) ∧ (∀ v1430 : Int, v1430 = (if (wga s1 618 l5) = 0 then l2 else (if ¬ (l2 = (-2)) then l2 else l5)) → ∀ v1431 : Int, v1431 = (if (wga s1 618 l5) = 0 then l3 else l5) → ∀ v1432 : Int, v1432 = (if (wga s1 618 l5) = 0 then l4 else (if ¬ (l2 = (-2)) then (if ¬ (l3 = (l5 - 1)) then (l4 + 1) else (if ¬ (l2 = l5) then (l4 + 0) else (l4 + 1))) else (if ¬ (l3 = (l5 - 1)) then (l4 + 1) else (if ¬ (l5 = l5) then (l4 + 0) else (l4 + 1))))) → ((iR (l5 + 1)) ∧ (K31 (v1430, v1431, v1432, (l5 + 1), s1)))))))))
def W_judge_17 (s : im_S) (Q : Int → im_S → Prop) : Prop := (Q (-1) s)
def W_judge (l1 : Int) (s : im_S) (Q : Int → im_S → Prop) : Prop := (((wgf s 5) = 0 → (W_judge_17 s Q)) ∧ (¬ ((wgf s 5) = 0) → ((l1 < 0 → (W_judge_17 s Q)) ∧ (¬ (l1 < 0) → ((l1 ≤ 8 → (wloop (fun (K : Int × Int × Int × Int × im_S → Prop) (a : Int × Int × Int × Int × im_S) => W_judge_31 K l1 a.1 a.2.1 a.2.2.1 a.2.2.2.1 a.2.2.2.2 Q) ((-2), (-2), 0, 0, s))) ∧ (¬ (l1 ≤ 8) → (W_judge_17 s Q)))))))
set_option maxRecDepth 16384 in
theorem w_judge (L : Nat) (ys : Nat → Int32) (d : Nat) (s : im_S) (hv : vI s) (l1 : Int) (l1r : iR l1) (Q : Int → im_S → Prop) (hW : W_judge l1 s Q) : icI gG rm_P L ys 0 (d + 3) 61 [(2, ((582 : Nat) : Int)), (0, l1)] s (fun z9 s9 => vI s9 ∧ iR z9 ∧ Q z9 s9) := by
  refine ic_startM (M := rm_p_X10_judge) om_X10_judge (Nat.le_of_ble_eq_true rfl) ?_
  refine ir_w [(0, (2, ((582 : Nat) : Int))), (1, (0, l1))] ⟨rfl, rfl, trivial⟩ ?_
  have J31 : ∀ (l1 : Int) (l1r : iR l1) (I31 : Int × Int × Int × Int × im_S → Prop) (r31 : Int × Int × Int × Int × im_S → Nat) (hB31 : ∀ a : Int × Int × Int × Int × im_S, I31 a → W_judge_31 (fun b => I31 b ∧ r31 b < r31 a) l1 a.1 a.2.1 a.2.2.1 a.2.2.2.1 a.2.2.2.2 Q), ∀ n31 : Nat, ∀ (l2 : Int) (l2r : iR l2) (l3 : Int) (l3r : iR l3) (l4 : Int) (l4r : iR l4) (l5 : Int) (l5r : iR l5) (s : im_S) (hv : vI s), I31 (l2, l3, l4, l5, s) → r31 (l2, l3, l4, l5, s) < n31 → ir gG rm_P L ys (d + 2) rm_p_X10_judge (31, [(0, (2, ((582 : Nat) : Int))), (1, (0, l1)), (2, (0, l2)), (3, (0, l3)), (4, (0, l4)), (5, (0, l5))], [], s) (fun r : im_Re => ∃ z, r.1 = some (0, z) ∧ (vI r.2 ∧ iR z ∧ Q z r.2)) := by
    intro l1 l1r I31 r31 hB31 n31
    induction n31 with
    | zero => intro l2 l2r l3 l3r l4 l4r l5 l5r s hv hI hr; exact absurd hr (Nat.not_lt_zero _)
    | succ n31 ih31 =>
      intro l2 l2r l3 l3r l4 l4r l5 l5r s hv hI hr31
      obtain ⟨t31, ht31⟩ : ∃ t31 : Int × Int × Int × Int × im_S, t31 = (l2, l3, l4, l5, s) := ⟨_, rfl⟩
      rw [← ht31] at hr31
      have hW : W_judge_31 (fun b => I31 b ∧ r31 b < r31 t31) l1 l2 l3 l4 l5 s Q := by have z := hB31 (l2, l3, l4, l5, s) hI; rw [ht31]; exact z
      unfold W_judge_31 at hW
      refine ir_l (pc' := 33) rfl rfl rfl rfl rfl rfl ?_
      refine ir_l (pc' := 34) rfl rfl rfl rfl rfl rfl ?_
      refine ir_cVI (pc' := 37) rfl rfl rfl rfl rfl (Nat.le_of_ble_eq_true rfl) oo_X10_cells vg_582 (w_cells L ys (d + 1) s hv  _ hW) (fun z2 s1 hr => ?_)
      obtain ⟨s1v, z2r, hW⟩ := hr
      refine ir_c_ge (pt := 96) (pc' := 40) rfl rfl rfl (fun c3 => ?_) (fun c3 => ?_)
      · have hW := hW.1 c3
        refine ir_l (pc' := 97) rfl rfl rfl rfl rfl rfl ?_
        refine ir_cVI (pc' := 100) rfl rfl rfl rfl rfl (Nat.le_of_ble_eq_true rfl) oo_X10_holdingMany vg_582 (w_holdingMany L ys d s1 s1v  _ hW) (fun z5 s4 hr => ?_)
        obtain ⟨s4v, z5r, hW⟩ := hr
        refine ir_s (pc' := 102) rfl rfl rfl rfl rfl rfl ?_
        refine ir_l (pc' := 103) rfl rfl rfl rfl rfl rfl ?_
        rcases (show l1 = 0 ∨ l1 = 1 ∨ l1 = 2 ∨ l1 = 3 ∨ l1 = 4 ∨ l1 = 5 ∨ l1 = 6 ∨ l1 = 7 ∨ (l1 < 0 ∨ 7 < l1) by omega) with c6 | c6 | c6 | c6 | c6 | c6 | c6 | c6 | c6
        · have hW := hW.1 c6
          refine ir_tab (pc' := 148) 0 rfl (show l1 = 0 + ((0 : Nat) : Int) by omega) (by decide) rfl rfl ?_
          refine ir_l (pc' := 150) rfl rfl rfl rfl rfl rfl ?_
          have J208 : ∀ v207 : Int, zR v207 → ((Q v207 s4)) → ir gG rm_P L ys (d + 2) rm_p_X10_judge (158, [], [(0, v207)], s4) (fun r : im_Re => ∃ z, r.1 = some (0, z) ∧ (vI r.2 ∧ iR z ∧ Q z r.2)) := by
            intro v207 v207r hW
            exact ir_iret rfl rfl ⟨_, rfl, s4v, (zR_i v207r), hW⟩
          refine ir_z_le (pt := 157) (pc' := 153) rfl rfl rfl (fun c7 => ?_) (fun c7 => ?_)
          · refine ir_k (pc' := 158) (v := (0, 0)) rfl rfl rfl (fun _ => rfl) ?_
            refine ir_w [] trivial ?_
            exact J208 0 (Or.inl rfl) (hW _ (by rw [if_pos c7]))
          · refine ir_k (pc' := 154) (v := (0, 1)) rfl rfl rfl (fun _ => rfl) ?_
            refine ir_goto (pc' := 158) rfl rfl ?_
            refine ir_w [] trivial ?_
            exact J208 1 (Or.inr rfl) (hW _ (by rw [if_neg (fun z => c7 z)]))
        · have hW := hW.2.1 c6
          refine ir_tab (pc' := 159) 1 rfl (show l1 = 0 + ((1 : Nat) : Int) by omega) (by decide) rfl rfl ?_
          refine ir_l (pc' := 161) rfl rfl rfl rfl rfl rfl ?_
          refine ir_l (pc' := 162) rfl rfl rfl rfl rfl rfl ?_
          refine ir_cVI (pc' := 165) rfl rfl rfl rfl rfl (Nat.le_of_ble_eq_true rfl) oo_X10_cells vg_582 (w_cells L ys (d + 1) s4 s4v  _ hW) (fun z210 s209 hr => ?_)
          obtain ⟨s209v, z210r, hW⟩ := hr
          have J412 : ∀ v411 : Int, zR v411 → ((Q v411 s209)) → ir gG rm_P L ys (d + 2) rm_p_X10_judge (173, [], [(0, v411)], s209) (fun r : im_Re => ∃ z, r.1 = some (0, z) ∧ (vI r.2 ∧ iR z ∧ Q z r.2)) := by
            intro v411 v411r hW
            exact ir_iret rfl rfl ⟨_, rfl, s209v, (zR_i v411r), hW⟩
          refine ir_c_ne (pt := 172) (pc' := 168) rfl rfl rfl (fun c211 => ?_) (fun c211 => ?_)
          · refine ir_k (pc' := 173) (v := (0, 0)) rfl rfl rfl (fun _ => rfl) ?_
            refine ir_w [] trivial ?_
            exact J412 0 (Or.inl rfl) (hW _ (by rw [if_pos c211]))
          · refine ir_k (pc' := 169) (v := (0, 1)) rfl rfl rfl (fun _ => rfl) ?_
            refine ir_goto (pc' := 173) rfl rfl ?_
            refine ir_w [] trivial ?_
            exact J412 1 (Or.inr rfl) (hW _ (by rw [if_neg (by omega)]))
        · have hW := hW.2.2.1 c6
          refine ir_tab (pc' := 174) 2 rfl (show l1 = 0 + ((2 : Nat) : Int) by omega) (by decide) rfl rfl ?_
          refine ir_l (pc' := 175) rfl rfl rfl rfl rfl rfl ?_
          exact ir_iret rfl rfl ⟨_, rfl, s4v, l2r, hW⟩
        · have hW := hW.2.2.2.1 c6
          refine ir_tab (pc' := 176) 3 rfl (show l1 = 0 + ((3 : Nat) : Int) by omega) (by decide) rfl rfl ?_
          refine ir_l (pc' := 177) rfl rfl rfl rfl rfl rfl ?_
          exact ir_iret rfl rfl ⟨_, rfl, s4v, l3r, hW⟩
        · have hW := hW.2.2.2.2.1 c6
          refine ir_tab (pc' := 178) 4 rfl (show l1 = 0 + ((4 : Nat) : Int) by omega) (by decide) rfl rfl ?_
          refine ir_l (pc' := 180) rfl rfl rfl rfl rfl rfl ?_
          exact ir_iret rfl rfl ⟨_, rfl, s4v, l4r, hW⟩
        · have hW := hW.2.2.2.2.2.1 c6
          refine ir_tab (pc' := 181) 5 rfl (show l1 = 0 + ((5 : Nat) : Int) by omega) (by decide) rfl rfl ?_
          refine ir_l (pc' := 183) rfl rfl rfl rfl rfl rfl ?_
          have J614 : ∀ v613 : Int, zR v613 → ((Q v613 s4)) → ir gG rm_P L ys (d + 2) rm_p_X10_judge (198, [], [(0, v613)], s4) (fun r : im_Re => ∃ z, r.1 = some (0, z) ∧ (vI r.2 ∧ iR z ∧ Q z r.2)) := by
            intro v613 v613r hW
            exact ir_iret rfl rfl ⟨_, rfl, s4v, (zR_i v613r), hW⟩
          refine ir_z_le (pt := 197) (pc' := 186) rfl rfl rfl (fun c413 => ?_) (fun c413 => ?_)
          · refine ir_k (pc' := 198) (v := (0, 0)) rfl rfl rfl (fun _ => rfl) ?_
            refine ir_w [] trivial ?_
            exact J614 0 (Or.inl rfl) (hW _ (by rw [if_pos c413]))
          · refine ir_l (pc' := 187) rfl rfl rfl rfl rfl rfl ?_
            refine ir_k (pc' := 188) (v := (0, 2)) rfl rfl rfl (fun _ => rfl) ?_
            refine ir_rem (pc' := 189) rfl rfl l2r.1 l2r.2 (by decide) (⟨by decide, by decide⟩ : iR 2).2 ?_
            refine ir_k (pc' := 190) (v := (0, 1)) rfl rfl rfl (fun _ => rfl) ?_
            refine ir_c_ne (pt := 197) (pc' := 193) rfl rfl rfl (fun c414 => ?_) (fun c414 => ?_)
            · refine ir_k (pc' := 198) (v := (0, 0)) rfl rfl rfl (fun _ => rfl) ?_
              refine ir_w [] trivial ?_
              exact J614 0 (Or.inl rfl) (hW _ (by rw [if_neg (fun z => c413 z), if_pos c414]))
            · refine ir_k (pc' := 194) (v := (0, 1)) rfl rfl rfl (fun _ => rfl) ?_
              refine ir_goto (pc' := 198) rfl rfl ?_
              refine ir_w [] trivial ?_
              exact J614 1 (Or.inr rfl) (hW _ (by rw [if_neg (fun z => c413 z), if_neg (by omega)]))
        · have hW := hW.2.2.2.2.2.2.1 c6
          refine ir_tab (pc' := 199) 6 rfl (show l1 = 0 + ((6 : Nat) : Int) by omega) (by decide) rfl rfl ?_
          refine ir_l (pc' := 201) rfl rfl rfl rfl rfl rfl ?_
          have J816 : ∀ v815 : Int, zR v815 → ((Q v815 s4)) → ir gG rm_P L ys (d + 2) rm_p_X10_judge (216, [], [(0, v815)], s4) (fun r : im_Re => ∃ z, r.1 = some (0, z) ∧ (vI r.2 ∧ iR z ∧ Q z r.2)) := by
            intro v815 v815r hW
            exact ir_iret rfl rfl ⟨_, rfl, s4v, (zR_i v815r), hW⟩
          refine ir_z_le (pt := 215) (pc' := 204) rfl rfl rfl (fun c615 => ?_) (fun c615 => ?_)
          · refine ir_k (pc' := 216) (v := (0, 0)) rfl rfl rfl (fun _ => rfl) ?_
            refine ir_w [] trivial ?_
            exact J816 0 (Or.inl rfl) (hW _ (by rw [if_pos c615]))
          · refine ir_l (pc' := 205) rfl rfl rfl rfl rfl rfl ?_
            refine ir_k (pc' := 206) (v := (0, 2)) rfl rfl rfl (fun _ => rfl) ?_
            refine ir_rem (pc' := 207) rfl rfl l3r.1 l3r.2 (by decide) (⟨by decide, by decide⟩ : iR 2).2 ?_
            refine ir_k (pc' := 208) (v := (0, 1)) rfl rfl rfl (fun _ => rfl) ?_
            refine ir_c_ne (pt := 215) (pc' := 211) rfl rfl rfl (fun c616 => ?_) (fun c616 => ?_)
            · refine ir_k (pc' := 216) (v := (0, 0)) rfl rfl rfl (fun _ => rfl) ?_
              refine ir_w [] trivial ?_
              exact J816 0 (Or.inl rfl) (hW _ (by rw [if_neg (fun z => c615 z), if_pos c616]))
            · refine ir_k (pc' := 212) (v := (0, 1)) rfl rfl rfl (fun _ => rfl) ?_
              refine ir_goto (pc' := 216) rfl rfl ?_
              refine ir_w [] trivial ?_
              exact J816 1 (Or.inr rfl) (hW _ (by rw [if_neg (fun z => c615 z), if_neg (by omega)]))
        · have hW := hW.2.2.2.2.2.2.2.1 c6
          refine ir_tab (pc' := 217) 7 rfl (show l1 = 0 + ((7 : Nat) : Int) by omega) (by decide) rfl rfl ?_
          obtain ⟨h817, hW⟩ := hW
          refine ir_l (pc' := 218) rfl rfl rfl rfl rfl rfl ?_
          refine ir_vgr (pc' := 221) (c := 618) rfl rfl rfl rfl rfl s4v ?_
          refine ir_k (pc' := 222) (v := (0, 0)) rfl rfl rfl (fun _ => rfl) ?_
          refine ir_vba (pc' := 223) rfl rfl vg_618 rfl (Nat.le_of_ble_eq_true rfl) s4v rfl h817 (fun r818 => ?_)
          have J1020 : ∀ v1019 : Int, zR v1019 → ((Q v1019 s4)) → ir gG rm_P L ys (d + 2) rm_p_X10_judge (231, [], [(0, v1019)], s4) (fun r : im_Re => ∃ z, r.1 = some (0, z) ∧ (vI r.2 ∧ iR z ∧ Q z r.2)) := by
            intro v1019 v1019r hW
            exact ir_iret rfl rfl ⟨_, rfl, s4v, (zR_i v1019r), hW⟩
          refine ir_z_eq (pt := 230) (pc' := 226) rfl rfl rfl (fun c819 => ?_) (fun c819 => ?_)
          · refine ir_k (pc' := 231) (v := (0, 0)) rfl rfl rfl (fun _ => rfl) ?_
            refine ir_w [] trivial ?_
            exact J1020 0 (Or.inl rfl) (hW _ (by rw [if_pos c819]))
          · refine ir_k (pc' := 227) (v := (0, 1)) rfl rfl rfl (fun _ => rfl) ?_
            refine ir_goto (pc' := 231) rfl rfl ?_
            refine ir_w [] trivial ?_
            exact J1020 1 (Or.inr rfl) (hW _ (by rw [if_neg (fun z => c819 z)]))
        · have hW := hW.2.2.2.2.2.2.2.2 c6
          refine ir_tabD (pc' := 232) rfl c6 rfl ?_
          refine ir_l (pc' := 233) rfl rfl rfl rfl rfl rfl ?_
          refine ir_vgr (pc' := 236) (c := 618) rfl rfl rfl rfl rfl s4v ?_
          refine ir_l (pc' := 237) rfl rfl rfl rfl rfl rfl ?_
          refine ir_cVI (pc' := 240) rfl rfl rfl rfl rfl (Nat.le_of_ble_eq_true rfl) oo_X10_cells vg_582 (w_cells L ys (d + 1) s4 s4v  _ hW) (fun z1022 s1021 hr => ?_)
          obtain ⟨s1021v, z1022r, hW⟩ := hr
          obtain ⟨h1024, hW⟩ := hW
          have h1023 : iR (z1022 - 1) := ⟨by omega, by omega⟩
          refine ir_k (pc' := 241) (v := (0, 1)) rfl rfl rfl (fun _ => rfl) ?_
          refine ir_sub (pc' := 242) rfl rfl h1023.1 h1023.2 ?_
          refine ir_vba (pc' := 243) rfl rfl vg_618 rfl (Nat.le_of_ble_eq_true rfl) s1021v rfl h1024 (fun r1025 => ?_)
          have J1227 : ∀ v1226 : Int, zR v1226 → ((Q v1226 s1021)) → ir gG rm_P L ys (d + 2) rm_p_X10_judge (251, [], [(0, v1226)], s1021) (fun r : im_Re => ∃ z, r.1 = some (0, z) ∧ (vI r.2 ∧ iR z ∧ Q z r.2)) := by
            intro v1226 v1226r hW
            exact ir_iret rfl rfl ⟨_, rfl, s1021v, (zR_i v1226r), hW⟩
          refine ir_z_eq (pt := 250) (pc' := 246) rfl rfl rfl (fun c1026 => ?_) (fun c1026 => ?_)
          · refine ir_k (pc' := 251) (v := (0, 0)) rfl rfl rfl (fun _ => rfl) ?_
            refine ir_w [] trivial ?_
            exact J1227 0 (Or.inl rfl) (hW _ (by rw [if_pos c1026]))
          · refine ir_k (pc' := 247) (v := (0, 1)) rfl rfl rfl (fun _ => rfl) ?_
            refine ir_goto (pc' := 251) rfl rfl ?_
            refine ir_w [] trivial ?_
            exact J1227 1 (Or.inr rfl) (hW _ (by rw [if_neg (fun z => c1026 z)]))
      · have hW := hW.2 c3
        obtain ⟨h1228, h1232, h1234, h1236, h1237, h1238, h1240, h1242, h1243, hW⟩ := hW
        refine ir_l (pc' := 41) rfl rfl rfl rfl rfl rfl ?_
        refine ir_vgr (pc' := 44) (c := 618) rfl rfl rfl rfl rfl s1v ?_
        refine ir_l (pc' := 46) rfl rfl rfl rfl rfl rfl ?_
        refine ir_vba (pc' := 47) rfl rfl vg_618 rfl (Nat.le_of_ble_eq_true rfl) s1v rfl h1228 (fun r1229 => ?_)
        have J1433 : ∀ v1430 : Int, iR v1430 → ∀ v1431 : Int, iR v1431 → ∀ v1432 : Int, iR v1432 → (((iR (l5 + 1)) ∧ ((fun b => I31 b ∧ r31 b < r31 t31) (v1430, v1431, v1432, (l5 + 1), s1)))) → ir gG rm_P L ys (d + 2) rm_p_X10_judge (90, [(0, (2, ((582 : Nat) : Int))), (1, (0, l1)), (2, (0, v1430)), (3, (0, v1431)), (4, (0, v1432)), (5, (0, l5))], [], s1) (fun r : im_Re => ∃ z, r.1 = some (0, z) ∧ (vI r.2 ∧ iR z ∧ Q z r.2)) := by
          intro v1430 v1430r v1431 v1431r v1432 v1432r hW
          obtain ⟨h1434, hW⟩ := hW
          refine ir_inc (pc' := 93) rfl rfl rfl rfl rfl h1434.1 h1434.2 ?_
          refine ir_goto (pc' := 31) rfl rfl ?_
          refine ir_w [(0, (2, ((582 : Nat) : Int))), (1, (0, l1)), (2, (0, v1430)), (3, (0, v1431)), (4, (0, v1432)), (5, (0, (l5 + 1)))] ⟨rfl, rfl, rfl, rfl, rfl, rfl, trivial⟩ ?_
          exact ih31 v1430 v1430r v1431 v1431r v1432 v1432r (l5 + 1) h1434 s1 s1v hW.1 (Nat.lt_of_lt_of_le hW.2 (Nat.le_of_lt_succ hr31))
        refine ir_z_eq (pt := 90) (pc' := 50) rfl rfl rfl (fun c1230 => ?_) (fun c1230 => ?_)
        · refine ir_w [(0, (2, ((582 : Nat) : Int))), (1, (0, l1)), (2, (0, l2)), (3, (0, l3)), (4, (0, l4)), (5, (0, l5))] ⟨rfl, rfl, rfl, rfl, rfl, rfl, trivial⟩ ?_
          exact J1433 l2 l2r l3 l3r l4 l4r (hW _ (by rw [if_pos c1230]) _ (by rw [if_pos c1230]) _ (by rw [if_pos c1230]))
        · refine ir_l (pc' := 51) rfl rfl rfl rfl rfl rfl ?_
          refine ir_k (pc' := 53) (v := (0, (-2))) rfl rfl rfl (fun _ => rfl) ?_
          refine ir_c_ne (pt := 61) (pc' := 56) rfl rfl rfl (fun c1231 => ?_) (fun c1231 => ?_)
          · refine ir_l (pc' := 62) rfl rfl rfl rfl rfl rfl ?_
            refine ir_s (pc' := 63) rfl rfl rfl rfl rfl rfl ?_
            refine ir_l (pc' := 65) rfl rfl rfl rfl rfl rfl ?_
            refine ir_l (pc' := 66) rfl rfl rfl rfl rfl rfl ?_
            refine ir_l (pc' := 68) rfl rfl rfl rfl rfl rfl ?_
            refine ir_k (pc' := 69) (v := (0, 1)) rfl rfl rfl (fun _ => rfl) ?_
            refine ir_sub (pc' := 70) rfl rfl (h1232 c1230 c1231).1 (h1232 c1230 c1231).2 ?_
            refine ir_c_ne (pt := 79) (pc' := 73) rfl rfl rfl (fun c1233 => ?_) (fun c1233 => ?_)
            · refine ir_k (pc' := 80) (v := (0, 1)) rfl rfl rfl (fun _ => rfl) ?_
              refine ir_goto (pc' := 84) rfl rfl ?_
              refine ir_add (pc' := 85) rfl rfl (h1234 c1230 c1231 c1233).1 (h1234 c1230 c1231 c1233).2 ?_
              refine ir_s (pc' := 87) rfl rfl rfl rfl rfl rfl ?_
              refine ir_l (pc' := 89) rfl rfl rfl rfl rfl rfl ?_
              refine ir_s (pc' := 90) rfl rfl rfl rfl rfl rfl ?_
              refine ir_w [(0, (2, ((582 : Nat) : Int))), (1, (0, l1)), (2, (0, l2)), (3, (0, l5)), (4, (0, (l4 + 1))), (5, (0, l5))] ⟨rfl, rfl, rfl, rfl, rfl, rfl, trivial⟩ ?_
              exact J1433 l2 l2r l5 l5r (l4 + 1) (h1234 c1230 c1231 c1233) (hW _ (by rw [if_neg (fun z => c1230 z), if_pos c1231]) _ (by rw [if_neg (fun z => c1230 z)]) _ (by rw [if_neg (fun z => c1230 z), if_pos c1231, if_pos c1233]))
            · refine ir_l (pc' := 74) rfl rfl rfl rfl rfl rfl ?_
              refine ir_l (pc' := 76) rfl rfl rfl rfl rfl rfl ?_
              refine ir_c_ne (pt := 83) (pc' := 79) rfl rfl rfl (fun c1235 => ?_) (fun c1235 => ?_)
              · refine ir_k (pc' := 84) (v := (0, 0)) rfl rfl rfl (fun _ => rfl) ?_
                refine ir_add (pc' := 85) rfl rfl (h1236 c1230 c1231 c1233 c1235).1 (h1236 c1230 c1231 c1233 c1235).2 ?_
                refine ir_s (pc' := 87) rfl rfl rfl rfl rfl rfl ?_
                refine ir_l (pc' := 89) rfl rfl rfl rfl rfl rfl ?_
                refine ir_s (pc' := 90) rfl rfl rfl rfl rfl rfl ?_
                refine ir_w [(0, (2, ((582 : Nat) : Int))), (1, (0, l1)), (2, (0, l2)), (3, (0, l5)), (4, (0, (l4 + 0))), (5, (0, l5))] ⟨rfl, rfl, rfl, rfl, rfl, rfl, trivial⟩ ?_
                exact J1433 l2 l2r l5 l5r (l4 + 0) (h1236 c1230 c1231 c1233 c1235) (hW _ (by rw [if_neg (fun z => c1230 z), if_pos c1231]) _ (by rw [if_neg (fun z => c1230 z)]) _ (by rw [if_neg (fun z => c1230 z), if_pos c1231, if_neg (by omega), if_pos c1235]))
              · refine ir_k (pc' := 80) (v := (0, 1)) rfl rfl rfl (fun _ => rfl) ?_
                refine ir_goto (pc' := 84) rfl rfl ?_
                refine ir_add (pc' := 85) rfl rfl (h1237 c1230 c1231 c1233 c1235).1 (h1237 c1230 c1231 c1233 c1235).2 ?_
                refine ir_s (pc' := 87) rfl rfl rfl rfl rfl rfl ?_
                refine ir_l (pc' := 89) rfl rfl rfl rfl rfl rfl ?_
                refine ir_s (pc' := 90) rfl rfl rfl rfl rfl rfl ?_
                refine ir_w [(0, (2, ((582 : Nat) : Int))), (1, (0, l1)), (2, (0, l2)), (3, (0, l5)), (4, (0, (l4 + 1))), (5, (0, l5))] ⟨rfl, rfl, rfl, rfl, rfl, rfl, trivial⟩ ?_
                exact J1433 l2 l2r l5 l5r (l4 + 1) (h1237 c1230 c1231 c1233 c1235) (hW _ (by rw [if_neg (fun z => c1230 z), if_pos c1231]) _ (by rw [if_neg (fun z => c1230 z)]) _ (by rw [if_neg (fun z => c1230 z), if_pos c1231, if_neg (by omega), if_neg (by omega)]))
          · refine ir_l (pc' := 58) rfl rfl rfl rfl rfl rfl ?_
            refine ir_goto (pc' := 62) rfl rfl ?_
            refine ir_s (pc' := 63) rfl rfl rfl rfl rfl rfl ?_
            refine ir_l (pc' := 65) rfl rfl rfl rfl rfl rfl ?_
            refine ir_l (pc' := 66) rfl rfl rfl rfl rfl rfl ?_
            refine ir_l (pc' := 68) rfl rfl rfl rfl rfl rfl ?_
            refine ir_k (pc' := 69) (v := (0, 1)) rfl rfl rfl (fun _ => rfl) ?_
            refine ir_sub (pc' := 70) rfl rfl (h1238 c1230 c1231).1 (h1238 c1230 c1231).2 ?_
            refine ir_c_ne (pt := 79) (pc' := 73) rfl rfl rfl (fun c1239 => ?_) (fun c1239 => ?_)
            · refine ir_k (pc' := 80) (v := (0, 1)) rfl rfl rfl (fun _ => rfl) ?_
              refine ir_goto (pc' := 84) rfl rfl ?_
              refine ir_add (pc' := 85) rfl rfl (h1240 c1230 c1231 c1239).1 (h1240 c1230 c1231 c1239).2 ?_
              refine ir_s (pc' := 87) rfl rfl rfl rfl rfl rfl ?_
              refine ir_l (pc' := 89) rfl rfl rfl rfl rfl rfl ?_
              refine ir_s (pc' := 90) rfl rfl rfl rfl rfl rfl ?_
              refine ir_w [(0, (2, ((582 : Nat) : Int))), (1, (0, l1)), (2, (0, l5)), (3, (0, l5)), (4, (0, (l4 + 1))), (5, (0, l5))] ⟨rfl, rfl, rfl, rfl, rfl, rfl, trivial⟩ ?_
              exact J1433 l5 l5r l5 l5r (l4 + 1) (h1240 c1230 c1231 c1239) (hW _ (by rw [if_neg (fun z => c1230 z), if_neg (by omega)]) _ (by rw [if_neg (fun z => c1230 z)]) _ (by rw [if_neg (fun z => c1230 z), if_neg (by omega), if_pos c1239]))
            · refine ir_l (pc' := 74) rfl rfl rfl rfl rfl rfl ?_
              refine ir_l (pc' := 76) rfl rfl rfl rfl rfl rfl ?_
              refine ir_c_ne (pt := 83) (pc' := 79) rfl rfl rfl (fun c1241 => ?_) (fun c1241 => ?_)
              · refine ir_k (pc' := 84) (v := (0, 0)) rfl rfl rfl (fun _ => rfl) ?_
                refine ir_add (pc' := 85) rfl rfl (h1242 c1230 c1231 c1239 c1241).1 (h1242 c1230 c1231 c1239 c1241).2 ?_
                refine ir_s (pc' := 87) rfl rfl rfl rfl rfl rfl ?_
                refine ir_l (pc' := 89) rfl rfl rfl rfl rfl rfl ?_
                refine ir_s (pc' := 90) rfl rfl rfl rfl rfl rfl ?_
                refine ir_w [(0, (2, ((582 : Nat) : Int))), (1, (0, l1)), (2, (0, l5)), (3, (0, l5)), (4, (0, (l4 + 0))), (5, (0, l5))] ⟨rfl, rfl, rfl, rfl, rfl, rfl, trivial⟩ ?_
                exact J1433 l5 l5r l5 l5r (l4 + 0) (h1242 c1230 c1231 c1239 c1241) (hW _ (by rw [if_neg (fun z => c1230 z), if_neg (by omega)]) _ (by rw [if_neg (fun z => c1230 z)]) _ (by rw [if_neg (fun z => c1230 z), if_neg (by omega), if_neg (by omega), if_pos c1241]))
              · refine ir_k (pc' := 80) (v := (0, 1)) rfl rfl rfl (fun _ => rfl) ?_
                refine ir_goto (pc' := 84) rfl rfl ?_
                refine ir_add (pc' := 85) rfl rfl (h1243 c1230 c1231 c1239 c1241).1 (h1243 c1230 c1231 c1239 c1241).2 ?_
                refine ir_s (pc' := 87) rfl rfl rfl rfl rfl rfl ?_
                refine ir_l (pc' := 89) rfl rfl rfl rfl rfl rfl ?_
                refine ir_s (pc' := 90) rfl rfl rfl rfl rfl rfl ?_
                refine ir_w [(0, (2, ((582 : Nat) : Int))), (1, (0, l1)), (2, (0, l5)), (3, (0, l5)), (4, (0, (l4 + 1))), (5, (0, l5))] ⟨rfl, rfl, rfl, rfl, rfl, rfl, trivial⟩ ?_
                exact J1433 l5 l5r l5 l5r (l4 + 1) (h1243 c1230 c1231 c1239 c1241) (hW _ (by rw [if_neg (fun z => c1230 z), if_neg (by omega)]) _ (by rw [if_neg (fun z => c1230 z)]) _ (by rw [if_neg (fun z => c1230 z), if_neg (by omega), if_neg (by omega), if_neg (by omega)]))
  have J17 : ∀ (s : im_S) (hv : vI s), W_judge_17 s Q → ir gG rm_P L ys (d + 2) rm_p_X10_judge (17, [], [], s) (fun r : im_Re => ∃ z, r.1 = some (0, z) ∧ (vI r.2 ∧ iR z ∧ Q z r.2)) := by
    intro s hv hW
    unfold W_judge_17 at hW
    refine ir_k (pc' := 18) (v := (0, (-1))) rfl rfl rfl (fun _ => rfl) ?_
    exact ir_iret rfl rfl ⟨_, rfl, hv, (⟨by decide, by decide⟩ : iR (-1)), hW⟩
  unfold W_judge at hW
  refine ir_l (pc' := 1) rfl rfl rfl rfl rfl rfl ?_
  refine ir_vgz (pc' := 4) rfl rfl rfl rfl rfl hv (fun r1435 => ?_)
  refine ir_z_eq (pt := 17) (pc' := 7) rfl rfl rfl (fun c1436 => ?_) (fun c1436 => ?_)
  · have hW := hW.1 c1436
    refine ir_w [] trivial ?_
    exact J17 s hv hW
  · have hW := hW.2 c1436
    refine ir_l (pc' := 8) rfl rfl rfl rfl rfl rfl ?_
    refine ir_z_lt (pt := 17) (pc' := 11) rfl rfl rfl (fun c1437 => ?_) (fun c1437 => ?_)
    · have hW := hW.1 c1437
      refine ir_w [] trivial ?_
      exact J17 s hv hW
    · have hW := hW.2 c1437
      refine ir_l (pc' := 12) rfl rfl rfl rfl rfl rfl ?_
      refine ir_k (pc' := 14) (v := (0, 8)) rfl rfl rfl (fun _ => rfl) ?_
      refine ir_c_le (pt := 19) (pc' := 17) rfl rfl rfl (fun c1438 => ?_) (fun c1438 => ?_)
      · have hW := hW.1 c1438
        refine ir_k (pc' := 21) (v := (0, (-2))) rfl rfl rfl (fun _ => rfl) ?_
        refine ir_s (pc' := 22) rfl rfl rfl rfl rfl rfl ?_
        refine ir_k (pc' := 24) (v := (0, (-2))) rfl rfl rfl (fun _ => rfl) ?_
        refine ir_s (pc' := 25) rfl rfl rfl rfl rfl rfl ?_
        refine ir_k (pc' := 26) (v := (0, 0)) rfl rfl rfl (fun _ => rfl) ?_
        refine ir_s (pc' := 28) rfl rfl rfl rfl rfl rfl ?_
        refine ir_k (pc' := 29) (v := (0, 0)) rfl rfl rfl (fun _ => rfl) ?_
        refine ir_s (pc' := 31) rfl rfl rfl rfl rfl rfl ?_
        refine ir_w [(0, (2, ((582 : Nat) : Int))), (1, (0, l1)), (2, (0, (-2))), (3, (0, (-2))), (4, (0, 0)), (5, (0, 0))] ⟨rfl, rfl, rfl, rfl, rfl, rfl, trivial⟩ ?_
        obtain ⟨I9, r9, hI9, hB9⟩ := hW
        exact J31 l1 l1r I9 r9 hB9 _ (-2) (⟨by decide, by decide⟩ : iR (-2)) (-2) (⟨by decide, by decide⟩ : iR (-2)) 0 (zR_i (Or.inl rfl)) 0 (zR_i (Or.inl rfl)) s hv hI9 (Nat.lt_succ_self _)
      · have hW := hW.2 c1438
        refine ir_w [] trivial ?_
        exact J17 s hv hW
