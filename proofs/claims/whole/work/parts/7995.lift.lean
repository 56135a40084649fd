/-! THE READER, lifted by program -/
def C_isDigit7 (l0 : Int) (s : im_S) (Q : Int → im_S → Prop) : Prop := (∀ v201 : Int, v201 = (if l0 < 48 then 0 else (if 57 < l0 then 0 else 1)) → (Q v201 s))
set_option maxRecDepth 16384 in
theorem c_isDigit7 (L : Nat) (ys : Nat → Int32) (d : Nat) (s : im_S) (hv : jI s) (l0 : Int) (l0r : iR l0) (Q : Int → im_S → Prop) (hW : C_isDigit7 l0 s Q) : pcI L ys 0 d 186 [(0, l0)] s (fun z9 s9 => jI s9 ∧ iR z9 ∧ Q z9 s9) := by
  intro res hres
  refine pq_start (M := rm_p_X7_isDigit) (Q := (fun r : im_Re => ∃ z, r.1 = some (0, z) ∧ (jI r.2 ∧ iR z ∧ Q z r.2))) om_X7_isDigit (fun d N => ?_) res hres
  refine pq_w [(0, (0, l0))] ⟨rfl, trivial⟩ ?_
  unfold C_isDigit7 at hW
  refine pq_l (pc' := 1) rfl rfl rfl rfl rfl ?_
  refine pq_k (pc' := 3) (v := (0, 48)) rfl rfl rfl (fun _ => rfl) ?_
  have J202 : ∀ v201 : Int, iR v201 → ((Q v201 s)) → pq L ys d N rm_p_X7_isDigit (17, [], [(0, v201)], s) (fun r : im_Re => ∃ z, r.1 = some (0, z) ∧ (jI r.2 ∧ iR z ∧ Q z r.2)) := by
    intro v201 v201r hW
    exact pq_iret rfl ⟨_, rfl, hv, v201r, hW⟩
  refine pq_c_lt (pt := 16) (pc' := 6) rfl rfl rfl (fun c1 => ?_) (fun c1 => ?_)
  · refine pq_k (pc' := 17) (v := (0, 0)) rfl rfl rfl (fun _ => rfl) ?_
    refine pq_w [] trivial ?_
    exact J202 0 (⟨by decide, by decide⟩ : iR 0) (hW _ (by rw [if_pos c1]))
  · refine pq_l (pc' := 7) rfl rfl rfl rfl rfl ?_
    refine pq_k (pc' := 9) (v := (0, 57)) rfl rfl rfl (fun _ => rfl) ?_
    refine pq_c_gt (pt := 16) (pc' := 12) rfl rfl rfl (fun c2 => ?_) (fun c2 => ?_)
    · refine pq_k (pc' := 17) (v := (0, 0)) rfl rfl rfl (fun _ => rfl) ?_
      refine pq_w [] trivial ?_
      exact J202 0 (⟨by decide, by decide⟩ : iR 0) (hW _ (by rw [if_neg (fun z => c1 z), if_pos c2]))
    · refine pq_k (pc' := 13) (v := (0, 1)) rfl rfl rfl (fun _ => rfl) ?_
      refine pq_goto (pc' := 17) rfl rfl ?_
      refine pq_w [] trivial ?_
      exact J202 1 (⟨by decide, by decide⟩ : iR 1) (hW _ (by rw [if_neg (fun z => c1 z), if_neg (fun z => c2 z)]))
def C_J0_isLatin1_aae02_0_2 (s : im_S) (Q : Int → im_S → Prop) : Prop := (∀ v201 : Int, v201 = (if (1 : Int) = 0 then 0 else (if ¬ ((0 : Int) = 0) then 0 else 1)) → (Q v201 s))
set_option maxRecDepth 16384 in
theorem c_J0_isLatin1_aae02_0_2 (L : Nat) (ys : Nat → Int32) (d : Nat) (s : im_S) (hv : jI s) (Q : Int → im_S → Prop) (hW : C_J0_isLatin1_aae02_0_2 s Q) : pcI L ys 0 d 230 [(4, 2)] s (fun z9 s9 => jI s9 ∧ iR z9 ∧ Q z9 s9) := by
  intro res hres
  refine pq_start (M := rm_p_J0_isLatin1_aae02) (Q := (fun r : im_Re => ∃ z, r.1 = some (0, z) ∧ (jI r.2 ∧ iR z ∧ Q z r.2))) om_J0_isLatin1_aae02 (fun d N => ?_) res hres
  refine pq_w [(0, (4, 2))] ⟨rfl, trivial⟩ ?_
  unfold C_J0_isLatin1_aae02_0_2 at hW
  refine pq_k (pc' := 3) (v := (0, 1)) rfl rfl rfl (fun _ => rfl) ?_
  have J202 : ∀ v201 : Int, iR v201 → ((Q v201 s)) → pq L ys d N rm_p_J0_isLatin1_aae02 (18, [], [(0, v201)], s) (fun r : im_Re => ∃ z, r.1 = some (0, z) ∧ (jI r.2 ∧ iR z ∧ Q z r.2)) := by
    intro v201 v201r hW
    exact pq_iret rfl ⟨_, rfl, hv, v201r, hW⟩
  refine pq_z_eq (pt := 17) (pc' := 6) rfl rfl rfl (fun c1 => ?_) (fun c1 => ?_)
  · refine pq_k (pc' := 18) (v := (0, 0)) rfl rfl rfl (fun _ => rfl) ?_
    refine pq_w [] trivial ?_
    exact J202 0 (⟨by decide, by decide⟩ : iR 0) (hW _ (by rw [if_pos c1]))
  · refine pq_l (pc' := 7) rfl rfl rfl rfl rfl ?_
    refine pq_x (pc' := 10) (st' := (0, (0 : Int)) :: _) rfl rfl rfl (fun _ => rfl) ?_
    refine pq_z_ne (pt := 17) (pc' := 13) rfl rfl rfl (fun c2 => ?_) (fun c2 => ?_)
    · refine pq_k (pc' := 18) (v := (0, 0)) rfl rfl rfl (fun _ => rfl) ?_
      refine pq_w [] trivial ?_
      exact J202 0 (⟨by decide, by decide⟩ : iR 0) (hW _ (by rw [if_neg (fun z => c1 z), if_pos c2]))
    · refine pq_k (pc' := 14) (v := (0, 1)) rfl rfl rfl (fun _ => rfl) ?_
      refine pq_goto (pc' := 18) rfl rfl ?_
      refine pq_w [] trivial ?_
      exact J202 1 (⟨by decide, by decide⟩ : iR 1) (hW _ (by rw [if_neg (fun z => c1 z), if_neg (by omega)]))
def C_J0_coder_7d493_0_2 (s : im_S) (Q : Int → im_S → Prop) : Prop := (∀ v201 : Int, v201 = (if (1 : Int) = 0 then 1 else (0 : Int)) → (Q v201 s))
set_option maxRecDepth 16384 in
theorem c_J0_coder_7d493_0_2 (L : Nat) (ys : Nat → Int32) (d : Nat) (s : im_S) (hv : jI s) (Q : Int → im_S → Prop) (hW : C_J0_coder_7d493_0_2 s Q) : pcI L ys 0 d 227 [(4, 2)] s (fun z9 s9 => jI s9 ∧ iR z9 ∧ Q z9 s9) := by
  intro res hres
  refine pq_start (M := rm_p_J0_coder_7d493) (Q := (fun r : im_Re => ∃ z, r.1 = some (0, z) ∧ (jI r.2 ∧ iR z ∧ Q z r.2))) om_J0_coder_7d493 (fun d N => ?_) res hres
  refine pq_w [(0, (4, 2))] ⟨rfl, trivial⟩ ?_
  unfold C_J0_coder_7d493_0_2 at hW
  refine pq_k (pc' := 3) (v := (0, 1)) rfl rfl rfl (fun _ => rfl) ?_
  have J202 : ∀ v201 : Int, iR v201 → ((Q v201 s)) → pq L ys d N rm_p_J0_coder_7d493 (14, [], [(0, v201)], s) (fun r : im_Re => ∃ z, r.1 = some (0, z) ∧ (jI r.2 ∧ iR z ∧ Q z r.2)) := by
    intro v201 v201r hW
    exact pq_iret rfl ⟨_, rfl, hv, v201r, hW⟩
  refine pq_z_eq (pt := 13) (pc' := 6) rfl rfl rfl (fun c1 => ?_) (fun c1 => ?_)
  · refine pq_k (pc' := 14) (v := (0, 1)) rfl rfl rfl (fun _ => rfl) ?_
    refine pq_w [] trivial ?_
    exact J202 1 (⟨by decide, by decide⟩ : iR 1) (hW _ (by rw [if_pos c1]))
  · refine pq_l (pc' := 7) rfl rfl rfl rfl rfl ?_
    refine pq_x (pc' := 10) (st' := (0, (0 : Int)) :: _) rfl rfl rfl (fun _ => rfl) ?_
    refine pq_goto (pc' := 14) rfl rfl ?_
    refine pq_w [] trivial ?_
    exact J202 (0 : Int) (⟨by decide, by decide⟩ : iR 0) (hW _ (by rw [if_neg (fun z => c1 z)]))
def C_J0_length_8abf5_0_2 (s : im_S) (Q : Int → im_S → Prop) : Prop := (C_J0_coder_7d493_0_2 s (fun z2 s1 => (Q (shrI 15 z2) s1)))
set_option maxRecDepth 16384 in
theorem c_J0_length_8abf5_0_2 (L : Nat) (ys : Nat → Int32) (d : Nat) (s : im_S) (hv : jI s) (Q : Int → im_S → Prop) (hW : C_J0_length_8abf5_0_2 s Q) : pcI L ys 0 d 231 [(4, 2)] s (fun z9 s9 => jI s9 ∧ iR z9 ∧ Q z9 s9) := by
  intro res hres
  refine pq_start (M := rm_p_J0_length_8abf5) (Q := (fun r : im_Re => ∃ z, r.1 = some (0, z) ∧ (jI r.2 ∧ iR z ∧ Q z r.2))) om_J0_length_8abf5 (fun d N => ?_) res hres
  refine pq_w [(0, (4, 2))] ⟨rfl, trivial⟩ ?_
  unfold C_J0_length_8abf5_0_2 at hW
  refine pq_l (pc' := 1) rfl rfl rfl rfl rfl ?_
  refine pq_x (pc' := 4) (st' := (4, 3) :: _) rfl rfl rfl (fun _ => rfl) ?_
  refine pq_x (pc' := 5) (st' := (0, 15) :: _) rfl rfl rfl (fun _ => rfl) ?_
  refine pq_l (pc' := 6) rfl rfl rfl rfl rfl ?_
  refine pq_cFI (pc' := 9) rfl rfl rfl rfl rfl (c_J0_coder_7d493_0_2 L ys d s hv  _ hW) (fun z2 s1 hr => ?_)
  obtain ⟨s1v, z2r, hW⟩ := hr
  refine pq_ishr (pc' := 10) rfl rfl ?_
  exact pq_iret rfl ⟨_, rfl, s1v, (shrI_r _ _), hW⟩
def C_J1_canEncode_9a6ad (l0 : Int) (s : im_S) (Q : Int → im_S → Prop) : Prop := (∀ v201 : Int, v201 = (if l0 < 0 then 0 else (if 255 < l0 then 0 else 1)) → (Q v201 s))
set_option maxRecDepth 16384 in
theorem c_J1_canEncode_9a6ad (L : Nat) (ys : Nat → Int32) (d : Nat) (s : im_S) (hv : jI s) (l0 : Int) (l0r : iR l0) (Q : Int → im_S → Prop) (hW : C_J1_canEncode_9a6ad l0 s Q) : pcI L ys 0 d 233 [(0, l0)] s (fun z9 s9 => jI s9 ∧ iR z9 ∧ Q z9 s9) := by
  intro res hres
  refine pq_start (M := rm_p_J1_canEncode_9a6ad) (Q := (fun r : im_Re => ∃ z, r.1 = some (0, z) ∧ (jI r.2 ∧ iR z ∧ Q z r.2))) om_J1_canEncode_9a6ad (fun d N => ?_) res hres
  refine pq_w [(0, (0, l0))] ⟨rfl, trivial⟩ ?_
  unfold C_J1_canEncode_9a6ad at hW
  refine pq_l (pc' := 1) rfl rfl rfl rfl rfl ?_
  have J202 : ∀ v201 : Int, iR v201 → ((Q v201 s)) → pq L ys d N rm_p_J1_canEncode_9a6ad (16, [], [(0, v201)], s) (fun r : im_Re => ∃ z, r.1 = some (0, z) ∧ (jI r.2 ∧ iR z ∧ Q z r.2)) := by
    intro v201 v201r hW
    exact pq_iret rfl ⟨_, rfl, hv, v201r, hW⟩
  refine pq_z_lt (pt := 15) (pc' := 4) rfl rfl rfl (fun c1 => ?_) (fun c1 => ?_)
  · refine pq_k (pc' := 16) (v := (0, 0)) rfl rfl rfl (fun _ => rfl) ?_
    refine pq_w [] trivial ?_
    exact J202 0 (⟨by decide, by decide⟩ : iR 0) (hW _ (by rw [if_pos c1]))
  · refine pq_l (pc' := 5) rfl rfl rfl rfl rfl ?_
    refine pq_k (pc' := 8) (v := (0, 255)) rfl rfl rfl (fun _ => rfl) ?_
    refine pq_c_gt (pt := 15) (pc' := 11) rfl rfl rfl (fun c2 => ?_) (fun c2 => ?_)
    · refine pq_k (pc' := 16) (v := (0, 0)) rfl rfl rfl (fun _ => rfl) ?_
      refine pq_w [] trivial ?_
      exact J202 0 (⟨by decide, by decide⟩ : iR 0) (hW _ (by rw [if_neg (fun z => c1 z), if_pos c2]))
    · refine pq_k (pc' := 12) (v := (0, 1)) rfl rfl rfl (fun _ => rfl) ?_
      refine pq_goto (pc' := 16) rfl rfl ?_
      refine pq_w [] trivial ?_
      exact J202 1 (⟨by decide, by decide⟩ : iR 1) (hW _ (by rw [if_neg (fun z => c1 z), if_neg (fun z => c2 z)]))
def C_J1_indexOfChar_4cfef_0_3_7 (K7 : Int × im_S → Prop) (l3 : Int) (l4 : Int) (l5 : Int) (s : im_S) (Q : Int → im_S → Prop) : Prop := ((l3 ≤ l5 → (Q (-1) s)) ∧ (¬ (l3 ≤ l5) → (∀ z2 : Int, iR z2 → ((¬ (z2 = l4) → (K7 ((w32 (l5 + 1)), s))) ∧ (z2 = l4 → (Q l5 s))))))
def C_J1_indexOfChar_4cfef_0_3 (l1 : Int) (l2 : Int) (l3 : Int) (s : im_S) (Q : Int → im_S → Prop) : Prop := (ploop (fun (K : Int × im_S → Prop) (a : Int × im_S) => C_J1_indexOfChar_4cfef_0_3_7 K l3 (c8 l1) a.1 a.2 Q) (l2, s))
set_option maxRecDepth 16384 in
theorem c_J1_indexOfChar_4cfef_0_3 (L : Nat) (ys : Nat → Int32) (d : Nat) (s : im_S) (hv : jI s) (l1 : Int) (l1r : iR l1) (l2 : Int) (l2r : iR l2) (l3 : Int) (l3r : iR l3) (Q : Int → im_S → Prop) (hW : C_J1_indexOfChar_4cfef_0_3 l1 l2 l3 s Q) : pcI L ys 0 d 234 [(4, 3), (0, l1), (0, l2), (0, l3)] s (fun z9 s9 => jI s9 ∧ iR z9 ∧ Q z9 s9) := by
  intro res hres
  refine pq_start (M := rm_p_J1_indexOfChar_4cfef) (Q := (fun r : im_Re => ∃ z, r.1 = some (0, z) ∧ (jI r.2 ∧ iR z ∧ Q z r.2))) om_J1_indexOfChar_4cfef (fun d N => ?_) res hres
  refine pq_w [(0, (4, 3)), (1, (0, l1)), (2, (0, l2)), (3, (0, l3))] ⟨rfl, rfl, rfl, rfl, trivial⟩ ?_
  have J7 : ∀ (l3 : Int) (l3r : iR l3) (l4 : Int) (l4r : iR l4) (I7 : Int × im_S → Prop) (hB7 : ∀ a : Int × im_S, I7 a → C_J1_indexOfChar_4cfef_0_3_7 I7 l3 l4 a.1 a.2 Q), ∀ N7 : Nat, N7 ≤ N → ∀ (l5 : Int) (l5r : iR l5) (s : im_S) (hv : jI s), I7 (l5, s) → pq L ys d N7 rm_p_J1_indexOfChar_4cfef (7, [(0, (4, 3)), (3, (0, l3)), (4, (0, l4)), (5, (0, l5))], [], s) (fun r : im_Re => ∃ z, r.1 = some (0, z) ∧ (jI r.2 ∧ iR z ∧ Q z r.2)) := by
    intro l3 l3r l4 l4r I7 hB7 N7
    induction N7 using Nat.strongRecOn with
    | _ N7 ih7 =>
      intro hN7 l5 l5r s hv hI
      have hW : C_J1_indexOfChar_4cfef_0_3_7 I7 l3 l4 l5 s Q := hB7 (l5, s) hI
      unfold C_J1_indexOfChar_4cfef_0_3_7 at hW
      refine pq_l (pc' := 9) rfl rfl rfl rfl rfl ?_
      refine pq_l (pc' := 10) rfl rfl rfl rfl rfl ?_
      refine pq_c_ge (pt := 31) (pc' := 13) rfl rfl rfl (fun c1 => ?_) (fun c1 => ?_)
      · have hW := hW.1 c1
        refine pq_k (pc' := 32) (v := (0, (-1))) rfl rfl rfl (fun _ => rfl) ?_
        exact pq_iret rfl ⟨_, rfl, hv, (⟨by decide, by decide⟩ : iR (-1)), hW⟩
      · have hW := hW.2 c1
        refine pq_l (pc' := 14) rfl rfl rfl rfl rfl ?_
        refine pq_l (pc' := 16) rfl rfl rfl rfl rfl ?_
        refine pq_tx (pc' := 17) rfl rfl (fun z2 z2r => ?_)
        have hW := hW z2 z2r
        refine pq_l (pc' := 19) rfl rfl rfl rfl rfl ?_
        refine pq_c_ne (pt := 25) (pc' := 22) rfl rfl rfl (fun c3 => ?_) (fun c3 => ?_)
        · have hW := hW.1 c3
          refine pq_inc (pc' := 28) rfl rfl rfl rfl ?_
          refine pq_gotoT (pc' := 7) rfl rfl (fun m4 m4l => ?_)
          refine pq_w [(0, (4, 3)), (3, (0, l3)), (4, (0, l4)), (5, (0, (w32 (l5 + 1))))] ⟨rfl, rfl, rfl, rfl, trivial⟩ ?_
          exact ih7 m4 (by omega) (by omega) (w32 (l5 + 1)) (w32_r _) s hv hW
        · have hW := hW.2 c3
          refine pq_l (pc' := 24) rfl rfl rfl rfl rfl ?_
          exact pq_iret rfl ⟨_, rfl, hv, l5r, hW⟩
  unfold C_J1_indexOfChar_4cfef_0_3 at hW
  refine pq_l (pc' := 1) rfl rfl rfl rfl rfl ?_
  refine pq_i2b (pc' := 2) rfl rfl ?_
  refine pq_s (pc' := 4) rfl rfl rfl rfl rfl ?_
  refine pq_l (pc' := 5) rfl rfl rfl rfl rfl ?_
  refine pq_s (pc' := 7) rfl rfl rfl rfl rfl ?_
  refine pq_w [(0, (4, 3)), (3, (0, l3)), (4, (0, (c8 l1))), (5, (0, l2))] ⟨rfl, rfl, rfl, rfl, trivial⟩ ?_
  obtain ⟨I9, hI9, hB9⟩ := hW
  exact J7 l3 l3r (c8 l1) (c8_r _) I9 hB9 N (by omega) l2 l2r s hv hI9
def C_J1_indexOf_4cfef_0_3 (l1 : Int) (l2 : Int) (l3 : Int) (s : im_S) (Q : Int → im_S → Prop) : Prop := (C_J1_canEncode_9a6ad l1 s (fun z2 s1 => ((¬ (z2 = 0) → (C_J9_max_7cf53 l2 0 s1 (fun z5 s4 => (C_J9_min_7cf53 l3 15 s4 (fun z7 s6 => ((z5 < z7 → (C_J1_indexOfChar_4cfef_0_3 l1 z5 z7 s6 (fun z10 s9 => (Q z10 s9)))) ∧ (¬ (z5 < z7) → (Q (-1) s6)))))))) ∧ (z2 = 0 → (Q (-1) s1)))))
set_option maxRecDepth 16384 in
theorem c_J1_indexOf_4cfef_0_3 (L : Nat) (ys : Nat → Int32) (d : Nat) (s : im_S) (hv : jI s) (l1 : Int) (l1r : iR l1) (l2 : Int) (l2r : iR l2) (l3 : Int) (l3r : iR l3) (Q : Int → im_S → Prop) (hW : C_J1_indexOf_4cfef_0_3 l1 l2 l3 s Q) : pcI L ys 0 d 235 [(4, 3), (0, l1), (0, l2), (0, l3)] s (fun z9 s9 => jI s9 ∧ iR z9 ∧ Q z9 s9) := by
  intro res hres
  refine pq_start (M := rm_p_J1_indexOf_4cfef) (Q := (fun r : im_Re => ∃ z, r.1 = some (0, z) ∧ (jI r.2 ∧ iR z ∧ Q z r.2))) om_J1_indexOf_4cfef (fun d N => ?_) res hres
  refine pq_w [(0, (4, 3)), (1, (0, l1)), (2, (0, l2)), (3, (0, l3))] ⟨rfl, rfl, rfl, rfl, trivial⟩ ?_
  unfold C_J1_indexOf_4cfef_0_3 at hW
  refine pq_l (pc' := 1) rfl rfl rfl rfl rfl ?_
  refine pq_cSI (pc' := 4) rfl rfl rfl rfl rfl (c_J1_canEncode_9a6ad L ys d s hv l1 l1r _ hW) (fun z2 s1 hr => ?_)
  obtain ⟨s1v, z2r, hW⟩ := hr
  refine pq_z_ne (pt := 9) (pc' := 7) rfl rfl rfl (fun c3 => ?_) (fun c3 => ?_)
  · have hW := hW.1 c3
    refine pq_l (pc' := 10) rfl rfl rfl rfl rfl ?_
    refine pq_k (pc' := 11) (v := (0, 0)) rfl rfl rfl (fun _ => rfl) ?_
    refine pq_cSI (pc' := 14) rfl rfl rfl rfl rfl (c_J9_max_7cf53 L ys d s1 s1v l2 l2r 0 (⟨by decide, by decide⟩ : iR 0) _ hW) (fun z5 s4 hr => ?_)
    obtain ⟨s4v, z5r, hW⟩ := hr
    refine pq_s (pc' := 15) rfl rfl rfl rfl rfl ?_
    refine pq_l (pc' := 16) rfl rfl rfl rfl rfl ?_
    refine pq_l (pc' := 17) rfl rfl rfl rfl rfl ?_
    refine pq_x (pc' := 18) (st' := (0, 15) :: _) rfl rfl rfl (fun _ => rfl) ?_
    refine pq_cSI (pc' := 21) rfl rfl rfl rfl rfl (c_J9_min_7cf53 L ys d s4 s4v l3 l3r 15 (⟨by decide, by decide⟩ : iR 15) _ hW) (fun z7 s6 hr => ?_)
    obtain ⟨s6v, z7r, hW⟩ := hr
    refine pq_s (pc' := 22) rfl rfl rfl rfl rfl ?_
    refine pq_l (pc' := 23) rfl rfl rfl rfl rfl ?_
    refine pq_l (pc' := 24) rfl rfl rfl rfl rfl ?_
    refine pq_c_lt (pt := 29) (pc' := 27) rfl rfl rfl (fun c8 => ?_) (fun c8 => ?_)
    · have hW := hW.1 c8
      refine pq_l (pc' := 30) rfl rfl rfl rfl rfl ?_
      refine pq_l (pc' := 31) rfl rfl rfl rfl rfl ?_
      refine pq_l (pc' := 32) rfl rfl rfl rfl rfl ?_
      refine pq_l (pc' := 33) rfl rfl rfl rfl rfl ?_
      refine pq_cSI (pc' := 36) rfl rfl rfl rfl rfl (c_J1_indexOfChar_4cfef_0_3 L ys d s6 s6v l1 l1r z5 z5r z7 z7r _ hW) (fun z10 s9 hr => ?_)
      obtain ⟨s9v, z10r, hW⟩ := hr
      exact pq_iret rfl ⟨_, rfl, s9v, z10r, hW⟩
    · have hW := hW.2 c8
      refine pq_k (pc' := 28) (v := (0, (-1))) rfl rfl rfl (fun _ => rfl) ?_
      exact pq_iret rfl ⟨_, rfl, s6v, (⟨by decide, by decide⟩ : iR (-1)), hW⟩
  · have hW := hW.2 c3
    refine pq_k (pc' := 8) (v := (0, (-1))) rfl rfl rfl (fun _ => rfl) ?_
    exact pq_iret rfl ⟨_, rfl, s1v, (⟨by decide, by decide⟩ : iR (-1)), hW⟩
def C_J0_indexOf_7cf53_0_2_36 (k0 : Int) (s : im_S) (Q : Int → im_S → Prop) : Prop := (Q k0 s)
def C_J0_indexOf_7cf53_0_2 (l1 : Int) (l2 : Int) (s : im_S) (Q : Int → im_S → Prop) : Prop := (C_J0_isLatin1_aae02_0_2 s (fun z2 s1 => ((z2 = 0 → (C_J0_length_8abf5_0_2 s1 (fun z5 s4 => False))) ∧ (¬ (z2 = 0) → (C_J0_length_8abf5_0_2 s1 (fun z7 s6 => (C_J1_indexOf_4cfef_0_3 l1 l2 z7 s6 (fun z9 s8 => (C_J0_indexOf_7cf53_0_2_36 z9 s8 Q)))))))))
set_option maxRecDepth 16384 in
theorem c_J0_indexOf_7cf53_0_2 (L : Nat) (ys : Nat → Int32) (d : Nat) (s : im_S) (hv : jI s) (l1 : Int) (l1r : iR l1) (l2 : Int) (l2r : iR l2) (Q : Int → im_S → Prop) (hW : C_J0_indexOf_7cf53_0_2 l1 l2 s Q) : pcI L ys 0 d 229 [(4, 2), (0, l1), (0, l2)] s (fun z9 s9 => jI s9 ∧ iR z9 ∧ Q z9 s9) := by
  intro res hres
  refine pq_start (M := rm_p_J0_indexOf_7cf53) (Q := (fun r : im_Re => ∃ z, r.1 = some (0, z) ∧ (jI r.2 ∧ iR z ∧ Q z r.2))) om_J0_indexOf_7cf53 (fun d N => ?_) res hres
  refine pq_w [(0, (4, 2)), (1, (0, l1)), (2, (0, l2))] ⟨rfl, rfl, rfl, trivial⟩ ?_
  have J36 : ∀ N36 : Nat, N36 ≤ N → ∀ (k0 : Int) (k0r : iR k0) (s : im_S) (hv : jI s), C_J0_indexOf_7cf53_0_2_36 k0 s Q → pq L ys d N36 rm_p_J0_indexOf_7cf53 (36, [], [(0, k0)], s) (fun r : im_Re => ∃ z, r.1 = some (0, z) ∧ (jI r.2 ∧ iR z ∧ Q z r.2)) := by
    intro N36 hN36 k0 k0r s hv hW
    unfold C_J0_indexOf_7cf53_0_2_36 at hW
    exact pq_iret rfl ⟨_, rfl, hv, k0r, hW⟩
  unfold C_J0_indexOf_7cf53_0_2 at hW
  refine pq_l (pc' := 1) rfl rfl rfl rfl rfl ?_
  refine pq_cFI (pc' := 4) rfl rfl rfl rfl rfl (c_J0_isLatin1_aae02_0_2 L ys d s hv  _ hW) (fun z2 s1 hr => ?_)
  obtain ⟨s1v, z2r, hW⟩ := hr
  refine pq_z_eq (pt := 23) (pc' := 7) rfl rfl rfl (fun c3 => ?_) (fun c3 => ?_)
  · have hW := hW.1 c3
    refine pq_l (pc' := 24) rfl rfl rfl rfl rfl ?_
    refine pq_x (pc' := 27) (st' := (4, 3) :: _) rfl rfl rfl (fun _ => rfl) ?_
    refine pq_l (pc' := 28) rfl rfl rfl rfl rfl ?_
    refine pq_l (pc' := 29) rfl rfl rfl rfl rfl ?_
    refine pq_l (pc' := 30) rfl rfl rfl rfl rfl ?_
    refine pq_cFI (pc' := 33) rfl rfl rfl rfl rfl (c_J0_length_8abf5_0_2 L ys d s1 s1v  _ hW) (fun z5 s4 hr => ?_)
    obtain ⟨s4v, z5r, hW⟩ := hr
    exact hW.elim
  · have hW := hW.2 c3
    refine pq_l (pc' := 8) rfl rfl rfl rfl rfl ?_
    refine pq_x (pc' := 11) (st' := (4, 3) :: _) rfl rfl rfl (fun _ => rfl) ?_
    refine pq_l (pc' := 12) rfl rfl rfl rfl rfl ?_
    refine pq_l (pc' := 13) rfl rfl rfl rfl rfl ?_
    refine pq_l (pc' := 14) rfl rfl rfl rfl rfl ?_
    refine pq_cFI (pc' := 17) rfl rfl rfl rfl rfl (c_J0_length_8abf5_0_2 L ys d s1 s1v  _ hW) (fun z7 s6 hr => ?_)
    obtain ⟨s6v, z7r, hW⟩ := hr
    refine pq_cSI (pc' := 20) rfl rfl rfl rfl rfl (c_J1_indexOf_4cfef_0_3 L ys d s6 s6v l1 l1r l2 l2r z7 z7r _ hW) (fun z9 s8 hr => ?_)
    obtain ⟨s8v, z9r, hW⟩ := hr
    refine pq_goto (pc' := 36) rfl rfl ?_
    refine pq_w [] trivial ?_
    exact J36 N (by omega) z9 z9r s8 s8v hW
def C_J0_indexOf_0f7a4_0_2 (l1 : Int) (s : im_S) (Q : Int → im_S → Prop) : Prop := (C_J0_indexOf_7cf53_0_2 l1 0 s (fun z2 s1 => (Q z2 s1)))
set_option maxRecDepth 16384 in
theorem c_J0_indexOf_0f7a4_0_2 (L : Nat) (ys : Nat → Int32) (d : Nat) (s : im_S) (hv : jI s) (l1 : Int) (l1r : iR l1) (Q : Int → im_S → Prop) (hW : C_J0_indexOf_0f7a4_0_2 l1 s Q) : pcI L ys 0 d 228 [(4, 2), (0, l1)] s (fun z9 s9 => jI s9 ∧ iR z9 ∧ Q z9 s9) := by
  intro res hres
  refine pq_start (M := rm_p_J0_indexOf_0f7a4) (Q := (fun r : im_Re => ∃ z, r.1 = some (0, z) ∧ (jI r.2 ∧ iR z ∧ Q z r.2))) om_J0_indexOf_0f7a4 (fun d N => ?_) res hres
  refine pq_w [(0, (4, 2)), (1, (0, l1))] ⟨rfl, rfl, trivial⟩ ?_
  unfold C_J0_indexOf_0f7a4_0_2 at hW
  refine pq_l (pc' := 1) rfl rfl rfl rfl rfl ?_
  refine pq_l (pc' := 2) rfl rfl rfl rfl rfl ?_
  refine pq_k (pc' := 3) (v := (0, 0)) rfl rfl rfl (fun _ => rfl) ?_
  refine pq_cFI (pc' := 6) rfl rfl rfl rfl rfl (c_J0_indexOf_7cf53_0_2 L ys d s hv l1 l1r 0 (⟨by decide, by decide⟩ : iR 0) _ hW) (fun z2 s1 hr => ?_)
  obtain ⟨s1v, z2r, hW⟩ := hr
  exact pq_iret rfl ⟨_, rfl, s1v, z2r, hW⟩
def C_look7_105 (s : im_S) (Q : im_S → Prop) : Prop := (Q s)
def C_look7_63 (k1 : Int) (s : im_S) (Q : im_S → Prop) : Prop := (∀ s1, s1 = cpf s 2 3 k1 → (((cgf s1 2 3) = 0 → (C_look7_105 s1 Q)) ∧ (¬ ((cgf s1 2 3) = 0) → (C_isDigit7 (cgf s1 2 3) s1 (fun z6 s5 => ((¬ (z6 = 0) → (C_look7_105 s5 Q)) ∧ (z6 = 0 → (C_J0_indexOf_0f7a4_0_2 (c16 (cgf s5 2 3)) s5 (fun z10 s9 => ((0 ≤ z10 → (C_look7_105 s9 Q)) ∧ (¬ (0 ≤ z10) → (C_fail7 1 (cgf s9 2 2) s9 (fun s13 => (C_look7_105 s13 Q))))))))))))))
def C_look7_38 (s : im_S) (Q : im_S → Prop) : Prop := (((cgf s 2 1) ≤ (cgf s 2 2) → (C_look7_63 0 s Q)) ∧ (¬ ((cgf s 2 1) ≤ (cgf s 2 2)) → (C_look7_63 (cga s 3 (cgf s 2 2)) s Q)))
def C_look7_0 (K0 : im_S → Prop) (s : im_S) (Q : im_S → Prop) : Prop := (((cgf s 2 1) ≤ (cgf s 2 2) → (C_look7_38 s Q)) ∧ (¬ ((cgf s 2 1) ≤ (cgf s 2 2)) → ((¬ ((cga s 3 (cgf s 2 2)) = 32) → (C_look7_38 s Q)) ∧ ((cga s 3 (cgf s 2 2)) = 32 → (∀ s27, s27 = cpf s 2 2 (w32 ((cgf s 2 2) + 1)) → (K0 (s27)))))))
def C_look7 (s : im_S) (Q : im_S → Prop) : Prop := (ploop (fun (K : im_S → Prop) (a : im_S) => C_look7_0 K a Q) (s))
set_option maxRecDepth 16384 in
theorem c_look7 (L : Nat) (ys : Nat → Int32) (d : Nat) (s : im_S) (hv : jI s) (Q : im_S → Prop) (hW : C_look7 s Q) : pcV L ys d 187 [(2, ((2 : Nat) : Int))] s (fun s9 => jI s9 ∧ Q s9) := by
  intro res hres
  refine pq_start (M := rm_p_X7_look) (Q := (fun r : im_Re => r.1 = none ∧ (jI r.2 ∧ Q r.2))) om_X7_look (fun d N => ?_) res hres
  refine pq_w [(0, (2, ((2 : Nat) : Int)))] ⟨rfl, trivial⟩ ?_
  have J105 : ∀ N105 : Nat, N105 ≤ N → ∀ (s : im_S) (hv : jI s), C_look7_105 s Q → pq L ys d N105 rm_p_X7_look (105, [], [], s) (fun r : im_Re => r.1 = none ∧ (jI r.2 ∧ Q r.2)) := by
    intro N105 hN105 s hv hW
    unfold C_look7_105 at hW
    exact pq_vret rfl ⟨rfl, hv, hW⟩
  have J63 : ∀ N63 : Nat, N63 ≤ N → ∀ (k1 : Int) (k1r : iR k1) (s : im_S) (hv : jI s), C_look7_63 k1 s Q → pq L ys d N63 rm_p_X7_look (63, [(0, (2, ((2 : Nat) : Int)))], [(0, k1), (2, ((2 : Nat) : Int))], s) (fun r : im_Re => r.1 = none ∧ (jI r.2 ∧ Q r.2)) := by
    intro N63 hN63 k1 k1r s hv hW
    unfold C_look7_63 at hW
    refine pq_pX (pc' := 66) rfl rfl rfl rfl (fun e => absurd e (by decide)) (fun e => absurd e (by decide)) hv (fun s1 s1e s1v => ?_)
    have hW := hW s1 s1e
    refine pq_l (pc' := 67) rfl rfl rfl rfl rfl ?_
    refine pq_gi (pc' := 70) rfl rfl rfl rfl rfl (fun r2 => ?_)
    refine pq_z_eq (pt := 105) (pc' := 73) rfl rfl rfl (fun c3 => ?_) (fun c3 => ?_)
    · have hW := hW.1 c3
      refine pq_w [] trivial ?_
      exact J105 N63 (by omega) s1 s1v hW
    · have hW := hW.2 c3
      refine pq_l (pc' := 74) rfl rfl rfl rfl rfl ?_
      refine pq_gi (pc' := 77) rfl rfl rfl rfl rfl (fun r4 => ?_)
      refine pq_cSI (pc' := 80) rfl rfl rfl rfl rfl (c_isDigit7 L ys d s1 s1v (cgf s1 2 3) r4 _ hW) (fun z6 s5 hr => ?_)
      obtain ⟨s5v, z6r, hW⟩ := hr
      refine pq_z_ne (pt := 105) (pc' := 83) rfl rfl rfl (fun c7 => ?_) (fun c7 => ?_)
      · have hW := hW.1 c7
        refine pq_w [] trivial ?_
        exact J105 N63 (by omega) s5 s5v hW
      · have hW := hW.2 c7
        refine pq_k (pc' := 85) (v := (4, 2)) rfl rfl rfl (fun _ => rfl) ?_
        refine pq_l (pc' := 86) rfl rfl rfl rfl rfl ?_
        refine pq_gi (pc' := 89) rfl rfl rfl rfl rfl (fun r8 => ?_)
        refine pq_i2c (pc' := 90) rfl rfl ?_
        refine pq_cFI (pc' := 93) rfl rfl rfl rfl rfl (c_J0_indexOf_0f7a4_0_2 L ys d s5 s5v (c16 (cgf s5 2 3)) (c16_r _) _ hW) (fun z10 s9 hr => ?_)
        obtain ⟨s9v, z10r, hW⟩ := hr
        refine pq_z_ge (pt := 105) (pc' := 96) rfl rfl rfl (fun c11 => ?_) (fun c11 => ?_)
        · have hW := hW.1 c11
          refine pq_w [] trivial ?_
          exact J105 N63 (by omega) s9 s9v hW
        · have hW := hW.2 c11
          refine pq_l (pc' := 97) rfl rfl rfl rfl rfl ?_
          refine pq_k (pc' := 98) (v := (0, 1)) rfl rfl rfl (fun _ => rfl) ?_
          refine pq_l (pc' := 99) rfl rfl rfl rfl rfl ?_
          refine pq_gi (pc' := 102) rfl rfl rfl rfl rfl (fun r12 => ?_)
          refine pq_cVV (pc' := 105) rfl rfl rfl rfl rfl (c_fail7 L ys d s9 s9v 1 (⟨by decide, by decide⟩ : iR 1) (cgf s9 2 2) r12 _ hW) (fun s13 hr => ?_)
          obtain ⟨s13v, hW⟩ := hr
          refine pq_w [] trivial ?_
          exact J105 N63 (by omega) s13 s13v hW
  have J38 : ∀ N38 : Nat, N38 ≤ N → ∀ (s : im_S) (hv : jI s), C_look7_38 s Q → pq L ys d N38 rm_p_X7_look (38, [(0, (2, ((2 : Nat) : Int)))], [], s) (fun r : im_Re => r.1 = none ∧ (jI r.2 ∧ Q r.2)) := by
    intro N38 hN38 s hv hW
    unfold C_look7_38 at hW
    refine pq_l (pc' := 39) rfl rfl rfl rfl rfl ?_
    refine pq_l (pc' := 40) rfl rfl rfl rfl rfl ?_
    refine pq_gi (pc' := 43) rfl rfl rfl rfl rfl (fun r15 => ?_)
    refine pq_l (pc' := 44) rfl rfl rfl rfl rfl ?_
    refine pq_gi (pc' := 47) rfl rfl rfl rfl rfl (fun r16 => ?_)
    refine pq_c_ge (pt := 62) (pc' := 50) rfl rfl rfl (fun c17 => ?_) (fun c17 => ?_)
    · have hW := hW.1 c17
      refine pq_k (pc' := 63) (v := (0, 0)) rfl rfl rfl (fun _ => rfl) ?_
      refine pq_w [(0, (2, ((2 : Nat) : Int)))] ⟨rfl, trivial⟩ ?_
      exact J63 N38 (by omega) 0 (⟨by decide, by decide⟩ : iR 0) s hv hW
    · have hW := hW.2 c17
      refine pq_l (pc' := 51) rfl rfl rfl rfl rfl ?_
      refine pq_gr (pc' := 54) (c := 3) (v := 3) rfl rfl rfl rfl rfl rfl hv ?_
      refine pq_l (pc' := 55) rfl rfl rfl rfl rfl ?_
      refine pq_gi (pc' := 58) rfl rfl rfl rfl rfl (fun r18 => ?_)
      refine pq_ca (pc' := 59) rfl rfl (fun r19a r19 => ?_)
      refine pq_goto (pc' := 63) rfl rfl ?_
      refine pq_w [(0, (2, ((2 : Nat) : Int)))] ⟨rfl, trivial⟩ ?_
      exact J63 N38 (by omega) (cga s 3 (cgf s 2 2)) r19 s hv hW
  have J0 : ∀ (I0 : im_S → Prop) (hB0 : ∀ a : im_S, I0 a → C_look7_0 I0 a Q), ∀ N0 : Nat, N0 ≤ N → ∀ (s : im_S) (hv : jI s), I0 (s) → pq L ys d N0 rm_p_X7_look (0, [(0, (2, ((2 : Nat) : Int)))], [], s) (fun r : im_Re => r.1 = none ∧ (jI r.2 ∧ Q r.2)) := by
    intro I0 hB0 N0
    induction N0 using Nat.strongRecOn with
    | _ N0 ih0 =>
      intro hN0 s hv hI
      have hW : C_look7_0 I0 s Q := hB0 (s) hI
      unfold C_look7_0 at hW
      refine pq_l (pc' := 1) rfl rfl rfl rfl rfl ?_
      refine pq_gi (pc' := 4) rfl rfl rfl rfl rfl (fun r20 => ?_)
      refine pq_l (pc' := 5) rfl rfl rfl rfl rfl ?_
      refine pq_gi (pc' := 8) rfl rfl rfl rfl rfl (fun r21 => ?_)
      refine pq_c_ge (pt := 38) (pc' := 11) rfl rfl rfl (fun c22 => ?_) (fun c22 => ?_)
      · have hW := hW.1 c22
        refine pq_w [(0, (2, ((2 : Nat) : Int)))] ⟨rfl, trivial⟩ ?_
        exact J38 N0 (by omega) s hv hW
      · have hW := hW.2 c22
        refine pq_l (pc' := 12) rfl rfl rfl rfl rfl ?_
        refine pq_gr (pc' := 15) (c := 3) (v := 3) rfl rfl rfl rfl rfl rfl hv ?_
        refine pq_l (pc' := 16) rfl rfl rfl rfl rfl ?_
        refine pq_gi (pc' := 19) rfl rfl rfl rfl rfl (fun r23 => ?_)
        refine pq_ca (pc' := 20) rfl rfl (fun r24a r24 => ?_)
        refine pq_k (pc' := 22) (v := (0, 32)) rfl rfl rfl (fun _ => rfl) ?_
        refine pq_c_ne (pt := 38) (pc' := 25) rfl rfl rfl (fun c25 => ?_) (fun c25 => ?_)
        · have hW := hW.1 c25
          refine pq_w [(0, (2, ((2 : Nat) : Int)))] ⟨rfl, trivial⟩ ?_
          exact J38 N0 (by omega) s hv hW
        · have hW := hW.2 c25
          refine pq_l (pc' := 26) rfl rfl rfl rfl rfl ?_
          refine pq_x (pc' := 27) rfl rfl rfl (fun _ => rfl) ?_
          refine pq_gi (pc' := 30) rfl rfl rfl rfl rfl (fun r26 => ?_)
          refine pq_k (pc' := 31) (v := (0, 1)) rfl rfl rfl (fun _ => rfl) ?_
          refine pq_add (pc' := 32) rfl rfl ?_
          refine pq_pX (pc' := 35) rfl rfl rfl rfl (fun e => absurd e (by decide)) (fun e => absurd e (by decide)) hv (fun s27 s27e s27v => ?_)
          have hW := hW s27 s27e
          refine pq_gotoT (pc' := 0) rfl rfl (fun m28 m28l => ?_)
          refine pq_w [(0, (2, ((2 : Nat) : Int)))] ⟨rfl, trivial⟩ ?_
          exact ih0 m28 (by omega) (by omega) s27 s27v hW
  unfold C_look7 at hW
  refine pq_w [(0, (2, ((2 : Nat) : Int)))] ⟨rfl, trivial⟩ ?_
  obtain ⟨I9, hI9, hB9⟩ := hW
  exact J0 I9 hB9 N (by omega) s hv hI9
def C_step7_21 (s : im_S) (Q : im_S → Prop) : Prop := (Q s)
def C_step7 (s : im_S) (Q : im_S → Prop) : Prop := ((¬ ((cgf s 2 4) = 0) → (C_step7_21 s Q)) ∧ ((cgf s 2 4) = 0 → (∀ s4, s4 = cpf s 2 2 (w32 ((cgf s 2 2) + 1)) → (C_look7 s4 (fun s5 => (C_step7_21 s5 Q))))))
set_option maxRecDepth 16384 in
theorem c_step7 (L : Nat) (ys : Nat → Int32) (d : Nat) (s : im_S) (hv : jI s) (Q : im_S → Prop) (hW : C_step7 s Q) : pcV L ys d 202 [(2, ((2 : Nat) : Int))] s (fun s9 => jI s9 ∧ Q s9) := by
  intro res hres
  refine pq_start (M := rm_p_X7_step) (Q := (fun r : im_Re => r.1 = none ∧ (jI r.2 ∧ Q r.2))) om_X7_step (fun d N => ?_) res hres
  refine pq_w [(0, (2, ((2 : Nat) : Int)))] ⟨rfl, trivial⟩ ?_
  have J21 : ∀ N21 : Nat, N21 ≤ N → ∀ (s : im_S) (hv : jI s), C_step7_21 s Q → pq L ys d N21 rm_p_X7_step (21, [], [], s) (fun r : im_Re => r.1 = none ∧ (jI r.2 ∧ Q r.2)) := by
    intro N21 hN21 s hv hW
    unfold C_step7_21 at hW
    exact pq_vret rfl ⟨rfl, hv, hW⟩
  unfold C_step7 at hW
  refine pq_l (pc' := 1) rfl rfl rfl rfl rfl ?_
  refine pq_gi (pc' := 4) rfl rfl rfl rfl rfl (fun r1 => ?_)
  refine pq_z_ne (pt := 21) (pc' := 7) rfl rfl rfl (fun c2 => ?_) (fun c2 => ?_)
  · have hW := hW.1 c2
    refine pq_w [] trivial ?_
    exact J21 N (by omega) s hv hW
  · have hW := hW.2 c2
    refine pq_l (pc' := 8) rfl rfl rfl rfl rfl ?_
    refine pq_x (pc' := 9) rfl rfl rfl (fun _ => rfl) ?_
    refine pq_gi (pc' := 12) rfl rfl rfl rfl rfl (fun r3 => ?_)
    refine pq_k (pc' := 13) (v := (0, 1)) rfl rfl rfl (fun _ => rfl) ?_
    refine pq_add (pc' := 14) rfl rfl ?_
    refine pq_pX (pc' := 17) rfl rfl rfl rfl (fun e => absurd e (by decide)) (fun e => absurd e (by decide)) hv (fun s4 s4e s4v => ?_)
    have hW := hW s4 s4e
    refine pq_l (pc' := 18) rfl rfl rfl rfl rfl ?_
    refine pq_cVV (pc' := 21) rfl rfl rfl rfl rfl (c_look7 L ys d s4 s4v  _ hW) (fun s5 hr => ?_)
    obtain ⟨s5v, hW⟩ := hr
    refine pq_w [] trivial ?_
    exact J21 N (by omega) s5 s5v hW
def C_expect7_24 (s : im_S) (Q : im_S → Prop) : Prop := (Q s)
def C_expect7 (l1 : Int) (s : im_S) (Q : im_S → Prop) : Prop := ((¬ ((cgf s 2 3) = l1) → (C_fail7 2 (cgf s 2 2) s (fun s4 => (C_expect7_24 s4 Q)))) ∧ ((cgf s 2 3) = l1 → (C_step7 s (fun s6 => (C_expect7_24 s6 Q)))))
set_option maxRecDepth 16384 in
theorem c_expect7 (L : Nat) (ys : Nat → Int32) (d : Nat) (s : im_S) (hv : jI s) (l1 : Int) (l1r : iR l1) (Q : im_S → Prop) (hW : C_expect7 l1 s Q) : pcV L ys d 182 [(2, ((2 : Nat) : Int)), (0, l1)] s (fun s9 => jI s9 ∧ Q s9) := by
  intro res hres
  refine pq_start (M := rm_p_X7_expect) (Q := (fun r : im_Re => r.1 = none ∧ (jI r.2 ∧ Q r.2))) om_X7_expect (fun d N => ?_) res hres
  refine pq_w [(0, (2, ((2 : Nat) : Int))), (1, (0, l1))] ⟨rfl, rfl, trivial⟩ ?_
  have J24 : ∀ N24 : Nat, N24 ≤ N → ∀ (s : im_S) (hv : jI s), C_expect7_24 s Q → pq L ys d N24 rm_p_X7_expect (24, [], [], s) (fun r : im_Re => r.1 = none ∧ (jI r.2 ∧ Q r.2)) := by
    intro N24 hN24 s hv hW
    unfold C_expect7_24 at hW
    exact pq_vret rfl ⟨rfl, hv, hW⟩
  unfold C_expect7 at hW
  refine pq_l (pc' := 1) rfl rfl rfl rfl rfl ?_
  refine pq_gi (pc' := 4) rfl rfl rfl rfl rfl (fun r1 => ?_)
  refine pq_l (pc' := 5) rfl rfl rfl rfl rfl ?_
  refine pq_c_ne (pt := 15) (pc' := 8) rfl rfl rfl (fun c2 => ?_) (fun c2 => ?_)
  · have hW := hW.1 c2
    refine pq_l (pc' := 16) rfl rfl rfl rfl rfl ?_
    refine pq_k (pc' := 17) (v := (0, 2)) rfl rfl rfl (fun _ => rfl) ?_
    refine pq_l (pc' := 18) rfl rfl rfl rfl rfl ?_
    refine pq_gi (pc' := 21) rfl rfl rfl rfl rfl (fun r3 => ?_)
    refine pq_cVV (pc' := 24) rfl rfl rfl rfl rfl (c_fail7 L ys d s hv 2 (⟨by decide, by decide⟩ : iR 2) (cgf s 2 2) r3 _ hW) (fun s4 hr => ?_)
    obtain ⟨s4v, hW⟩ := hr
    refine pq_w [] trivial ?_
    exact J24 N (by omega) s4 s4v hW
  · have hW := hW.2 c2
    refine pq_l (pc' := 9) rfl rfl rfl rfl rfl ?_
    refine pq_cVV (pc' := 12) rfl rfl rfl rfl rfl (c_step7 L ys d s hv  _ hW) (fun s6 hr => ?_)
    obtain ⟨s6v, hW⟩ := hr
    refine pq_goto (pc' := 24) rfl rfl ?_
    refine pq_w [] trivial ?_
    exact J24 N (by omega) s6 s6v hW
def C_emit7_30 (s : im_S) (Q : im_S → Prop) : Prop := (Q s)
def C_emit7 (l1 : Int) (s : im_S) (Q : im_S → Prop) : Prop := ((160 ≤ (cgf s 2 13) → (C_emit7_30 s Q)) ∧ (¬ (160 ≤ (cgf s 2 13)) → ((0 ≤ (cgf s 2 13) ∧ (cgf s 2 13) < gln 82) → ∀ s4, s4 = cpa s 82 (cgf s 2 13) l1 → (∀ s6, s6 = cpf s4 2 13 (w32 ((cgf s4 2 13) + 1)) → (C_emit7_30 s6 Q)))))
set_option maxRecDepth 16384 in
theorem c_emit7 (L : Nat) (ys : Nat → Int32) (d : Nat) (s : im_S) (hv : jI s) (l1 : Int) (l1r : iR l1) (Q : im_S → Prop) (hW : C_emit7 l1 s Q) : pcV L ys d 181 [(2, ((2 : Nat) : Int)), (0, l1)] s (fun s9 => jI s9 ∧ Q s9) := by
  intro res hres
  refine pq_start (M := rm_p_X7_emit) (Q := (fun r : im_Re => r.1 = none ∧ (jI r.2 ∧ Q r.2))) om_X7_emit (fun d N => ?_) res hres
  refine pq_w [(0, (2, ((2 : Nat) : Int))), (1, (0, l1))] ⟨rfl, rfl, trivial⟩ ?_
  have J30 : ∀ N30 : Nat, N30 ≤ N → ∀ (s : im_S) (hv : jI s), C_emit7_30 s Q → pq L ys d N30 rm_p_X7_emit (30, [], [], s) (fun r : im_Re => r.1 = none ∧ (jI r.2 ∧ Q r.2)) := by
    intro N30 hN30 s hv hW
    unfold C_emit7_30 at hW
    exact pq_vret rfl ⟨rfl, hv, hW⟩
  unfold C_emit7 at hW
  refine pq_l (pc' := 1) rfl rfl rfl rfl rfl ?_
  refine pq_gi (pc' := 4) rfl rfl rfl rfl rfl (fun r1 => ?_)
  refine pq_k (pc' := 7) (v := (0, 160)) rfl rfl rfl (fun _ => rfl) ?_
  refine pq_c_ge (pt := 30) (pc' := 10) rfl rfl rfl (fun c2 => ?_) (fun c2 => ?_)
  · have hW := hW.1 c2
    refine pq_w [] trivial ?_
    exact J30 N (by omega) s hv hW
  · have hW := hW.2 c2
    refine pq_l (pc' := 11) rfl rfl rfl rfl rfl ?_
    refine pq_gr (pc' := 14) (c := 82) (v := 82) rfl rfl rfl rfl rfl rfl hv ?_
    refine pq_l (pc' := 15) rfl rfl rfl rfl rfl ?_
    refine pq_gi (pc' := 18) rfl rfl rfl rfl rfl (fun r3 => ?_)
    refine pq_l (pc' := 19) rfl rfl rfl rfl rfl ?_
    refine pq_is (pc' := 20) rfl rfl (by decide) (by decide) hv (fun s4a s4b s4 s4e s4v => ?_)
    have hW := hW ⟨s4a, s4b⟩ s4 s4e
    refine pq_l (pc' := 21) rfl rfl rfl rfl rfl ?_
    refine pq_x (pc' := 22) rfl rfl rfl (fun _ => rfl) ?_
    refine pq_gi (pc' := 25) rfl rfl rfl rfl rfl (fun r5 => ?_)
    refine pq_k (pc' := 26) (v := (0, 1)) rfl rfl rfl (fun _ => rfl) ?_
    refine pq_add (pc' := 27) rfl rfl ?_
    refine pq_pX (pc' := 30) rfl rfl rfl rfl (fun e => absurd e (by decide)) (fun e => absurd e (by decide)) s4v (fun s6 s6e s6v => ?_)
    have hW := hW s6 s6e
    refine pq_w [] trivial ?_
    exact J30 N (by omega) s6 s6v hW
def C_slot7 (l1 : Int) (s : im_S) (Q : Nat → im_S → Prop) : Prop := (C_J9_min_7cf53 l1 25 s (fun z2 s1 => (C_J9_max_7cf53 0 z2 s1 (fun z4 s3 => (Q (5 + 2 * (z4).toNat) s3)))))
set_option maxRecDepth 16384 in
theorem c_slot7 (L : Nat) (ys : Nat → Int32) (d : Nat) (s : im_S) (hv : jI s) (l1 : Int) (l1r : iR l1) (Q : Nat → im_S → Prop) (hW : C_slot7 l1 s Q) : pcR L ys d 201 [(2, ((2 : Nat) : Int)), (0, l1)] s (fun z9 s9 => jI s9 ∧ Q z9 s9) := by
  intro res hres
  refine pq_start (M := rm_p_X7_slot) (Q := (fun r : im_Re => ∃ z : Nat, r.1 = some (2, (z : Int)) ∧ (jI r.2 ∧ Q z r.2))) om_X7_slot (fun d N => ?_) res hres
  refine pq_w [(0, (2, ((2 : Nat) : Int))), (1, (0, l1))] ⟨rfl, rfl, trivial⟩ ?_
  unfold C_slot7 at hW
  refine pq_l (pc' := 1) rfl rfl rfl rfl rfl ?_
  refine pq_gr (pc' := 4) (c := 4) (v := 4) rfl rfl rfl rfl rfl rfl hv ?_
  refine pq_k (pc' := 5) (v := (0, 0)) rfl rfl rfl (fun _ => rfl) ?_
  refine pq_l (pc' := 6) rfl rfl rfl rfl rfl ?_
  refine pq_k (pc' := 8) (v := (0, 25)) rfl rfl rfl (fun _ => rfl) ?_
  refine pq_cSI (pc' := 11) rfl rfl rfl rfl rfl (c_J9_min_7cf53 L ys d s hv l1 l1r 25 (⟨by decide, by decide⟩ : iR 25) _ hW) (fun z2 s1 hr => ?_)
  obtain ⟨s1v, z2r, hW⟩ := hr
  refine pq_cSI (pc' := 14) rfl rfl rfl rfl rfl (c_J9_max_7cf53 L ys d s1 s1v 0 (⟨by decide, by decide⟩ : iR 0) z2 z2r _ hW) (fun z4 s3 hr => ?_)
  obtain ⟨s3v, z4r, hW⟩ := hr
  refine pq_aa (pc' := 15) (b := 5) (k := 2) (n := 26) (m := 26) rfl rfl rfl rfl rfl s3v (fun r5a r5b => ?_)
  exact pq_aret rfl ⟨_, rfl, s3v, hW⟩
def C_readNumber7_134 (l1 : Int) (s : im_S) (Q : Int → im_S → Prop) : Prop := (Q l1 s)
def C_readNumber7_130 (l1 : Int) (s : im_S) (Q : Int → im_S → Prop) : Prop := (C_look7 s (fun s1 => (C_readNumber7_134 l1 s1 Q)))
def C_readNumber7_92 (l1 : Int) (s : im_S) (Q : Int → im_S → Prop) : Prop := (((cgf s 2 1) ≤ (cgf s 2 2) → (C_readNumber7_130 l1 s Q)) ∧ (¬ ((cgf s 2 1) ≤ (cgf s 2 2)) → (C_isDigit7 (cga s 3 (cgf s 2 2)) s (fun z9 s8 => ((z9 = 0 → (C_readNumber7_130 l1 s8 Q)) ∧ (¬ (z9 = 0) → (C_fail7 1 (cgf s8 2 2) s8 (fun s12 => (C_readNumber7_134 l1 s12 Q)))))))))
def C_readNumber7_38 (K38 : Int × im_S → Prop) (l2 : Int) (l1 : Int) (s : im_S) (Q : Int → im_S → Prop) : Prop := ((l2 ≤ (cgf s 2 2) → (C_readNumber7_92 l1 s Q)) ∧ (¬ (l2 ≤ (cgf s 2 2)) → (C_isDigit7 (cga s 3 (cgf s 2 2)) s (fun z19 s18 => ((z19 = 0 → (C_readNumber7_92 l1 s18 Q)) ∧ (¬ (z19 = 0) → (∀ s24, s24 = cpf s18 2 2 (w32 ((cgf s18 2 2) + 1)) → (K38 ((w32 ((w32 (l1 * 10)) + (w32 ((cga s18 3 (cgf s18 2 2)) - 48)))), s24)))))))))
def C_readNumber7 (s : im_S) (Q : Int → im_S → Prop) : Prop := (C_isDigit7 (cgf s 2 3) s (fun z28 s27 => ((¬ (z28 = 0) → (C_J9_min_7cf53 (cgf s27 2 1) (w32 ((cgf s27 2 2) + 6)) s27 (fun z33 s32 => (ploop (fun (K : Int × im_S → Prop) (a : Int × im_S) => C_readNumber7_38 K z33 a.1 a.2 Q) (0, s32))))) ∧ (z28 = 0 → (C_fail7 2 (cgf s27 2 2) s27 (fun s35 => (Q 0 s35)))))))
set_option maxRecDepth 16384 in
theorem c_readNumber7 (L : Nat) (ys : Nat → Int32) (d : Nat) (s : im_S) (hv : jI s) (Q : Int → im_S → Prop) (hW : C_readNumber7 s Q) : pcI L ys 0 d 195 [(2, ((2 : Nat) : Int))] s (fun z9 s9 => jI s9 ∧ iR z9 ∧ Q z9 s9) := by
  intro res hres
  refine pq_start (M := rm_p_X7_readNumber) (Q := (fun r : im_Re => ∃ z, r.1 = some (0, z) ∧ (jI r.2 ∧ iR z ∧ Q z r.2))) om_X7_readNumber (fun d N => ?_) res hres
  refine pq_w [(0, (2, ((2 : Nat) : Int)))] ⟨rfl, trivial⟩ ?_
  have J134 : ∀ N134 : Nat, N134 ≤ N → ∀ (l1 : Int) (l1r : iR l1) (s : im_S) (hv : jI s), C_readNumber7_134 l1 s Q → pq L ys d N134 rm_p_X7_readNumber (134, [(1, (0, l1))], [], s) (fun r : im_Re => ∃ z, r.1 = some (0, z) ∧ (jI r.2 ∧ iR z ∧ Q z r.2)) := by
    intro N134 hN134 l1 l1r s hv hW
    unfold C_readNumber7_134 at hW
    refine pq_l (pc' := 135) rfl rfl rfl rfl rfl ?_
    exact pq_iret rfl ⟨_, rfl, hv, l1r, hW⟩
  have J130 : ∀ N130 : Nat, N130 ≤ N → ∀ (l1 : Int) (l1r : iR l1) (s : im_S) (hv : jI s), C_readNumber7_130 l1 s Q → pq L ys d N130 rm_p_X7_readNumber (130, [(0, (2, ((2 : Nat) : Int))), (1, (0, l1))], [], s) (fun r : im_Re => ∃ z, r.1 = some (0, z) ∧ (jI r.2 ∧ iR z ∧ Q z r.2)) := by
    intro N130 hN130 l1 l1r s hv hW
    unfold C_readNumber7_130 at hW
    refine pq_l (pc' := 131) rfl rfl rfl rfl rfl ?_
    refine pq_cVV (pc' := 134) rfl rfl rfl rfl rfl (c_look7 L ys d s hv  _ hW) (fun s1 hr => ?_)
    obtain ⟨s1v, hW⟩ := hr
    refine pq_w [(1, (0, l1))] ⟨rfl, trivial⟩ ?_
    exact J134 N130 (by omega) l1 l1r s1 s1v hW
  have J92 : ∀ N92 : Nat, N92 ≤ N → ∀ (l1 : Int) (l1r : iR l1) (s : im_S) (hv : jI s), C_readNumber7_92 l1 s Q → pq L ys d N92 rm_p_X7_readNumber (92, [(0, (2, ((2 : Nat) : Int))), (1, (0, l1))], [], s) (fun r : im_Re => ∃ z, r.1 = some (0, z) ∧ (jI r.2 ∧ iR z ∧ Q z r.2)) := by
    intro N92 hN92 l1 l1r s hv hW
    unfold C_readNumber7_92 at hW
    refine pq_l (pc' := 93) rfl rfl rfl rfl rfl ?_
    refine pq_gi (pc' := 96) rfl rfl rfl rfl rfl (fun r3 => ?_)
    refine pq_l (pc' := 97) rfl rfl rfl rfl rfl ?_
    refine pq_gi (pc' := 100) rfl rfl rfl rfl rfl (fun r4 => ?_)
    refine pq_c_ge (pt := 130) (pc' := 103) rfl rfl rfl (fun c5 => ?_) (fun c5 => ?_)
    · have hW := hW.1 c5
      refine pq_w [(0, (2, ((2 : Nat) : Int))), (1, (0, l1))] ⟨rfl, rfl, trivial⟩ ?_
      exact J130 N92 (by omega) l1 l1r s hv hW
    · have hW := hW.2 c5
      refine pq_l (pc' := 104) rfl rfl rfl rfl rfl ?_
      refine pq_gr (pc' := 107) (c := 3) (v := 3) rfl rfl rfl rfl rfl rfl hv ?_
      refine pq_l (pc' := 108) rfl rfl rfl rfl rfl ?_
      refine pq_gi (pc' := 111) rfl rfl rfl rfl rfl (fun r6 => ?_)
      refine pq_ca (pc' := 112) rfl rfl (fun r7a r7 => ?_)
      refine pq_cSI (pc' := 115) rfl rfl rfl rfl rfl (c_isDigit7 L ys d s hv (cga s 3 (cgf s 2 2)) r7 _ hW) (fun z9 s8 hr => ?_)
      obtain ⟨s8v, z9r, hW⟩ := hr
      refine pq_z_eq (pt := 130) (pc' := 118) rfl rfl rfl (fun c10 => ?_) (fun c10 => ?_)
      · have hW := hW.1 c10
        refine pq_w [(0, (2, ((2 : Nat) : Int))), (1, (0, l1))] ⟨rfl, rfl, trivial⟩ ?_
        exact J130 N92 (by omega) l1 l1r s8 s8v hW
      · have hW := hW.2 c10
        refine pq_l (pc' := 119) rfl rfl rfl rfl rfl ?_
        refine pq_k (pc' := 120) (v := (0, 1)) rfl rfl rfl (fun _ => rfl) ?_
        refine pq_l (pc' := 121) rfl rfl rfl rfl rfl ?_
        refine pq_gi (pc' := 124) rfl rfl rfl rfl rfl (fun r11 => ?_)
        refine pq_cVV (pc' := 127) rfl rfl rfl rfl rfl (c_fail7 L ys d s8 s8v 1 (⟨by decide, by decide⟩ : iR 1) (cgf s8 2 2) r11 _ hW) (fun s12 hr => ?_)
        obtain ⟨s12v, hW⟩ := hr
        refine pq_goto (pc' := 134) rfl rfl ?_
        refine pq_w [(1, (0, l1))] ⟨rfl, trivial⟩ ?_
        exact J134 N92 (by omega) l1 l1r s12 s12v hW
  have J38 : ∀ (l2 : Int) (l2r : iR l2) (I38 : Int × im_S → Prop) (hB38 : ∀ a : Int × im_S, I38 a → C_readNumber7_38 I38 l2 a.1 a.2 Q), ∀ N38 : Nat, N38 ≤ N → ∀ (l1 : Int) (l1r : iR l1) (s : im_S) (hv : jI s), I38 (l1, s) → pq L ys d N38 rm_p_X7_readNumber (38, [(0, (2, ((2 : Nat) : Int))), (1, (0, l1)), (2, (0, l2))], [], s) (fun r : im_Re => ∃ z, r.1 = some (0, z) ∧ (jI r.2 ∧ iR z ∧ Q z r.2)) := by
    intro l2 l2r I38 hB38 N38
    induction N38 using Nat.strongRecOn with
    | _ N38 ih38 =>
      intro hN38 l1 l1r s hv hI
      have hW : C_readNumber7_38 I38 l2 l1 s Q := hB38 (l1, s) hI
      unfold C_readNumber7_38 at hW
      refine pq_l (pc' := 39) rfl rfl rfl rfl rfl ?_
      refine pq_gi (pc' := 42) rfl rfl rfl rfl rfl (fun r14 => ?_)
      refine pq_l (pc' := 43) rfl rfl rfl rfl rfl ?_
      refine pq_c_ge (pt := 92) (pc' := 46) rfl rfl rfl (fun c15 => ?_) (fun c15 => ?_)
      · have hW := hW.1 c15
        refine pq_w [(0, (2, ((2 : Nat) : Int))), (1, (0, l1))] ⟨rfl, rfl, trivial⟩ ?_
        exact J92 N38 (by omega) l1 l1r s hv hW
      · have hW := hW.2 c15
        refine pq_l (pc' := 47) rfl rfl rfl rfl rfl ?_
        refine pq_gr (pc' := 50) (c := 3) (v := 3) rfl rfl rfl rfl rfl rfl hv ?_
        refine pq_l (pc' := 51) rfl rfl rfl rfl rfl ?_
        refine pq_gi (pc' := 54) rfl rfl rfl rfl rfl (fun r16 => ?_)
        refine pq_ca (pc' := 55) rfl rfl (fun r17a r17 => ?_)
        refine pq_cSI (pc' := 58) rfl rfl rfl rfl rfl (c_isDigit7 L ys d s hv (cga s 3 (cgf s 2 2)) r17 _ hW) (fun z19 s18 hr => ?_)
        obtain ⟨s18v, z19r, hW⟩ := hr
        refine pq_z_eq (pt := 92) (pc' := 61) rfl rfl rfl (fun c20 => ?_) (fun c20 => ?_)
        · have hW := hW.1 c20
          refine pq_w [(0, (2, ((2 : Nat) : Int))), (1, (0, l1))] ⟨rfl, rfl, trivial⟩ ?_
          exact J92 N38 (by omega) l1 l1r s18 s18v hW
        · have hW := hW.2 c20
          refine pq_l (pc' := 62) rfl rfl rfl rfl rfl ?_
          refine pq_k (pc' := 64) (v := (0, 10)) rfl rfl rfl (fun _ => rfl) ?_
          refine pq_mul (pc' := 65) rfl rfl ?_
          refine pq_l (pc' := 66) rfl rfl rfl rfl rfl ?_
          refine pq_gr (pc' := 69) (c := 3) (v := 3) rfl rfl rfl rfl rfl rfl s18v ?_
          refine pq_l (pc' := 70) rfl rfl rfl rfl rfl ?_
          refine pq_gi (pc' := 73) rfl rfl rfl rfl rfl (fun r21 => ?_)
          refine pq_ca (pc' := 74) rfl rfl (fun r22a r22 => ?_)
          refine pq_k (pc' := 76) (v := (0, 48)) rfl rfl rfl (fun _ => rfl) ?_
          refine pq_sub (pc' := 77) rfl rfl ?_
          refine pq_add (pc' := 78) rfl rfl ?_
          refine pq_s (pc' := 79) rfl rfl rfl rfl rfl ?_
          refine pq_l (pc' := 80) rfl rfl rfl rfl rfl ?_
          refine pq_x (pc' := 81) rfl rfl rfl (fun _ => rfl) ?_
          refine pq_gi (pc' := 84) rfl rfl rfl rfl rfl (fun r23 => ?_)
          refine pq_k (pc' := 85) (v := (0, 1)) rfl rfl rfl (fun _ => rfl) ?_
          refine pq_add (pc' := 86) rfl rfl ?_
          refine pq_pX (pc' := 89) rfl rfl rfl rfl (fun e => absurd e (by decide)) (fun e => absurd e (by decide)) s18v (fun s24 s24e s24v => ?_)
          have hW := hW s24 s24e
          refine pq_gotoT (pc' := 38) rfl rfl (fun m25 m25l => ?_)
          refine pq_w [(0, (2, ((2 : Nat) : Int))), (1, (0, (w32 ((w32 (l1 * 10)) + (w32 ((cga s18 3 (cgf s18 2 2)) - 48)))))), (2, (0, l2))] ⟨rfl, rfl, rfl, trivial⟩ ?_
          exact ih38 m25 (by omega) (by omega) (w32 ((w32 (l1 * 10)) + (w32 ((cga s18 3 (cgf s18 2 2)) - 48)))) (w32_r _) s24 s24v hW
  unfold C_readNumber7 at hW
  refine pq_l (pc' := 1) rfl rfl rfl rfl rfl ?_
  refine pq_gi (pc' := 4) rfl rfl rfl rfl rfl (fun r26 => ?_)
  refine pq_cSI (pc' := 7) rfl rfl rfl rfl rfl (c_isDigit7 L ys d s hv (cgf s 2 3) r26 _ hW) (fun z28 s27 hr => ?_)
  obtain ⟨s27v, z28r, hW⟩ := hr
  refine pq_z_ne (pt := 21) (pc' := 10) rfl rfl rfl (fun c29 => ?_) (fun c29 => ?_)
  · have hW := hW.1 c29
    refine pq_k (pc' := 22) (v := (0, 0)) rfl rfl rfl (fun _ => rfl) ?_
    refine pq_s (pc' := 23) rfl rfl rfl rfl rfl ?_
    refine pq_l (pc' := 24) rfl rfl rfl rfl rfl ?_
    refine pq_gi (pc' := 27) rfl rfl rfl rfl rfl (fun r30 => ?_)
    refine pq_l (pc' := 28) rfl rfl rfl rfl rfl ?_
    refine pq_gi (pc' := 31) rfl rfl rfl rfl rfl (fun r31 => ?_)
    refine pq_k (pc' := 33) (v := (0, 6)) rfl rfl rfl (fun _ => rfl) ?_
    refine pq_add (pc' := 34) rfl rfl ?_
    refine pq_cSI (pc' := 37) rfl rfl rfl rfl rfl (c_J9_min_7cf53 L ys d s27 s27v (cgf s27 2 1) r30 (w32 ((cgf s27 2 2) + 6)) (w32_r _) _ hW) (fun z33 s32 hr => ?_)
    obtain ⟨s32v, z33r, hW⟩ := hr
    refine pq_s (pc' := 38) rfl rfl rfl rfl rfl ?_
    refine pq_w [(0, (2, ((2 : Nat) : Int))), (1, (0, 0)), (2, (0, z33))] ⟨rfl, rfl, rfl, trivial⟩ ?_
    obtain ⟨I9, hI9, hB9⟩ := hW
    exact J38 z33 z33r I9 hB9 N (by omega) 0 (⟨by decide, by decide⟩ : iR 0) s32 s32v hI9
  · have hW := hW.2 c29
    refine pq_l (pc' := 11) rfl rfl rfl rfl rfl ?_
    refine pq_k (pc' := 12) (v := (0, 2)) rfl rfl rfl (fun _ => rfl) ?_
    refine pq_l (pc' := 13) rfl rfl rfl rfl rfl ?_
    refine pq_gi (pc' := 16) rfl rfl rfl rfl rfl (fun r34 => ?_)
    refine pq_cVV (pc' := 19) rfl rfl rfl rfl rfl (c_fail7 L ys d s27 s27v 2 (⟨by decide, by decide⟩ : iR 2) (cgf s27 2 2) r34 _ hW) (fun s35 hr => ?_)
    obtain ⟨s35v, hW⟩ := hr
    refine pq_k (pc' := 20) (v := (0, 0)) rfl rfl rfl (fun _ => rfl) ?_
    exact pq_iret rfl ⟨_, rfl, s35v, (⟨by decide, by decide⟩ : iR 0), hW⟩
def C_negate7_2 (K2 : Int × im_S → Prop) (l0 : Nat) (l1 : Int) (s : im_S) (Q : im_S → Prop) : Prop := ((8 < l1 → (Q s)) ∧ (¬ (8 < l1) → (caJ s (l0 + 1) l1 → ((0 ≤ l1 ∧ l1 < gln (l0 + 1)) → ∀ s3, s3 = cpa s (l0 + 1) l1 (w64 (-(cga s (l0 + 1) l1))) → (K2 ((w32 (l1 + 1)), s3))))))
def C_negate7 (l0 : Nat) (s : im_S) (Q : im_S → Prop) : Prop := (ploop (fun (K : Int × im_S → Prop) (a : Int × im_S) => C_negate7_2 K l0 a.1 a.2 Q) (0, s))
set_option maxRecDepth 16384 in
theorem c_negate7 (L : Nat) (ys : Nat → Int32) (d : Nat) (s : im_S) (hv : jI s) (l0 : Nat) (Q : im_S → Prop) (hW : C_negate7 l0 s Q) : pcV L ys d 189 [(2, ((l0 : Nat) : Int))] s (fun s9 => jI s9 ∧ Q s9) := by
  intro res hres
  refine pq_start (M := rm_p_X7_negate) (Q := (fun r : im_Re => r.1 = none ∧ (jI r.2 ∧ Q r.2))) om_X7_negate (fun d N => ?_) res hres
  refine pq_w [(0, (2, ((l0 : Nat) : Int)))] ⟨rfl, trivial⟩ ?_
  have J2 : ∀ (l0 : Nat) (I2 : Int × im_S → Prop) (hB2 : ∀ a : Int × im_S, I2 a → C_negate7_2 I2 l0 a.1 a.2 Q), ∀ N2 : Nat, N2 ≤ N → ∀ (l1 : Int) (l1r : iR l1) (s : im_S) (hv : jI s), I2 (l1, s) → pq L ys d N2 rm_p_X7_negate (2, [(0, (2, ((l0 : Nat) : Int))), (1, (0, l1))], [], s) (fun r : im_Re => r.1 = none ∧ (jI r.2 ∧ Q r.2)) := by
    intro l0 I2 hB2 N2
    induction N2 using Nat.strongRecOn with
    | _ N2 ih2 =>
      intro hN2 l1 l1r s hv hI
      have hW : C_negate7_2 I2 l0 l1 s Q := hB2 (l1, s) hI
      unfold C_negate7_2 at hW
      refine pq_l (pc' := 3) rfl rfl rfl rfl rfl ?_
      refine pq_k (pc' := 5) (v := (0, 8)) rfl rfl rfl (fun _ => rfl) ?_
      refine pq_c_gt (pt := 27) (pc' := 8) rfl rfl rfl (fun c1 => ?_) (fun c1 => ?_)
      · have hW := hW.1 c1
        exact pq_vret rfl ⟨rfl, hv, hW⟩
      · have hW := hW.2 c1
        refine pq_l (pc' := 9) rfl rfl rfl rfl rfl ?_
        refine pq_gr (pc' := 12) (c := (l0 + 1)) (v := 0) rfl rfl rfl rfl rfl rfl hv ?_
        refine pq_l (pc' := 13) rfl rfl rfl rfl rfl ?_
        refine pq_l (pc' := 14) rfl rfl rfl rfl rfl ?_
        refine pq_gr (pc' := 17) (c := (l0 + 1)) (v := 0) rfl rfl rfl rfl rfl rfl hv ?_
        refine pq_l (pc' := 18) rfl rfl rfl rfl rfl ?_
        refine pq_la (pc' := 19) rfl rfl (fun r2a r2b r2 => ?_)
        have hW := hW ⟨⟨r2a, r2b⟩, r2⟩
        refine pq_lneg (pc' := 20) rfl rfl ?_
        refine pq_ls (pc' := 21) rfl rfl hv (fun s3a s3b s3 s3e s3v => ?_)
        have hW := hW ⟨s3a, s3b⟩ s3 s3e
        refine pq_inc (pc' := 24) rfl rfl rfl rfl ?_
        refine pq_gotoT (pc' := 2) rfl rfl (fun m4 m4l => ?_)
        refine pq_w [(0, (2, ((l0 : Nat) : Int))), (1, (0, (w32 (l1 + 1))))] ⟨rfl, rfl, trivial⟩ ?_
        exact ih2 m4 (by omega) (by omega) (w32 (l1 + 1)) (w32_r _) s3 s3v hW
  unfold C_negate7 at hW
  refine pq_k (pc' := 1) (v := (0, 0)) rfl rfl rfl (fun _ => rfl) ?_
  refine pq_s (pc' := 2) rfl rfl rfl rfl rfl ?_
  refine pq_w [(0, (2, ((l0 : Nat) : Int))), (1, (0, 0))] ⟨rfl, rfl, trivial⟩ ?_
  obtain ⟨I9, hI9, hB9⟩ := hW
  exact J2 l0 I9 hB9 N (by omega) 0 (⟨by decide, by decide⟩ : iR 0) s hv hI9
def C_addTo7_3 (K3 : Int × im_S → Prop) (l1 : Nat) (l2 : Nat) (l3 : Int) (l4 : Int) (l5 : Int) (s : im_S) (Q : im_S → Prop) : Prop := ((8 < l5 → (C_accept7 l1 l4 s (fun s2 => (Q s2)))) ∧ (¬ (8 < l5) → (caJ s (l1 + 1) l5 → (caJ s (l2 + 1) l5 → ((0 ≤ l5 ∧ l5 < gln 59) → ∀ s6, s6 = cpa s 59 l5 (w64 ((cga s (l1 + 1) l5) + (w64 (l3 * (cga s (l2 + 1) l5))))) → (K3 ((w32 (l5 + 1)), s6)))))))
def C_addTo7 (l1 : Nat) (l2 : Nat) (l3 : Int) (l4 : Int) (s : im_S) (Q : im_S → Prop) : Prop := (ploop (fun (K : Int × im_S → Prop) (a : Int × im_S) => C_addTo7_3 K l1 l2 l3 l4 a.1 a.2 Q) (0, s))
set_option maxRecDepth 16384 in
theorem c_addTo7 (L : Nat) (ys : Nat → Int32) (d : Nat) (s : im_S) (hv : jI s) (l1 : Nat) (l2 : Nat) (l3 : Int) (l3r : iR l3) (l4 : Int) (l4r : iR l4) (Q : im_S → Prop) (hW : C_addTo7 l1 l2 l3 l4 s Q) : pcV L ys d 180 [(2, ((2 : Nat) : Int)), (2, ((l1 : Nat) : Int)), (2, ((l2 : Nat) : Int)), (0, l3), (0, l4)] s (fun s9 => jI s9 ∧ Q s9) := by
  intro res hres
  refine pq_start (M := rm_p_X7_addTo) (Q := (fun r : im_Re => r.1 = none ∧ (jI r.2 ∧ Q r.2))) om_X7_addTo (fun d N => ?_) res hres
  refine pq_w [(0, (2, ((2 : Nat) : Int))), (1, (2, ((l1 : Nat) : Int))), (2, (2, ((l2 : Nat) : Int))), (3, (0, l3)), (4, (0, l4))] ⟨rfl, rfl, rfl, rfl, rfl, trivial⟩ ?_
  have J3 : ∀ (l1 : Nat) (l2 : Nat) (l3 : Int) (l3r : iR l3) (l4 : Int) (l4r : iR l4) (I3 : Int × im_S → Prop) (hB3 : ∀ a : Int × im_S, I3 a → C_addTo7_3 I3 l1 l2 l3 l4 a.1 a.2 Q), ∀ N3 : Nat, N3 ≤ N → ∀ (l5 : Int) (l5r : iR l5) (s : im_S) (hv : jI s), I3 (l5, s) → pq L ys d N3 rm_p_X7_addTo (3, [(0, (2, ((2 : Nat) : Int))), (1, (2, ((l1 : Nat) : Int))), (2, (2, ((l2 : Nat) : Int))), (3, (0, l3)), (4, (0, l4)), (5, (0, l5))], [], s) (fun r : im_Re => r.1 = none ∧ (jI r.2 ∧ Q r.2)) := by
    intro l1 l2 l3 l3r l4 l4r I3 hB3 N3
    induction N3 using Nat.strongRecOn with
    | _ N3 ih3 =>
      intro hN3 l5 l5r s hv hI
      have hW : C_addTo7_3 I3 l1 l2 l3 l4 l5 s Q := hB3 (l5, s) hI
      unfold C_addTo7_3 at hW
      refine pq_l (pc' := 5) rfl rfl rfl rfl rfl ?_
      refine pq_k (pc' := 7) (v := (0, 8)) rfl rfl rfl (fun _ => rfl) ?_
      refine pq_c_gt (pt := 41) (pc' := 10) rfl rfl rfl (fun c1 => ?_) (fun c1 => ?_)
      · have hW := hW.1 c1
        refine pq_l (pc' := 42) rfl rfl rfl rfl rfl ?_
        refine pq_l (pc' := 43) rfl rfl rfl rfl rfl ?_
        refine pq_l (pc' := 45) rfl rfl rfl rfl rfl ?_
        refine pq_cVV (pc' := 48) rfl rfl rfl rfl rfl (c_accept7 L ys d s hv l1 l4 l4r _ hW) (fun s2 hr => ?_)
        obtain ⟨s2v, hW⟩ := hr
        exact pq_vret rfl ⟨rfl, s2v, hW⟩
      · have hW := hW.2 c1
        refine pq_l (pc' := 11) rfl rfl rfl rfl rfl ?_
        refine pq_gr (pc' := 14) (c := 59) (v := 59) rfl rfl rfl rfl rfl rfl hv ?_
        refine pq_l (pc' := 16) rfl rfl rfl rfl rfl ?_
        refine pq_l (pc' := 17) rfl rfl rfl rfl rfl ?_
        refine pq_gr (pc' := 20) (c := (l1 + 1)) (v := 0) rfl rfl rfl rfl rfl rfl hv ?_
        refine pq_l (pc' := 22) rfl rfl rfl rfl rfl ?_
        refine pq_la (pc' := 23) rfl rfl (fun r4a r4b r4 => ?_)
        have hW := hW ⟨⟨r4a, r4b⟩, r4⟩
        refine pq_l (pc' := 24) rfl rfl rfl rfl rfl ?_
        refine pq_i2l (pc' := 25) rfl rfl l3r ?_
        refine pq_l (pc' := 26) rfl rfl rfl rfl rfl ?_
        refine pq_gr (pc' := 29) (c := (l2 + 1)) (v := 0) rfl rfl rfl rfl rfl rfl hv ?_
        refine pq_l (pc' := 31) rfl rfl rfl rfl rfl ?_
        refine pq_la (pc' := 32) rfl rfl (fun r5a r5b r5 => ?_)
        have hW := hW ⟨⟨r5a, r5b⟩, r5⟩
        refine pq_lmul (pc' := 33) rfl rfl ?_
        refine pq_ladd (pc' := 34) rfl rfl ?_
        refine pq_ls (pc' := 35) rfl rfl hv (fun s6a s6b s6 s6e s6v => ?_)
        have hW := hW ⟨s6a, s6b⟩ s6 s6e
        refine pq_inc (pc' := 38) rfl rfl rfl rfl ?_
        refine pq_gotoT (pc' := 3) rfl rfl (fun m7 m7l => ?_)
        refine pq_w [(0, (2, ((2 : Nat) : Int))), (1, (2, ((l1 : Nat) : Int))), (2, (2, ((l2 : Nat) : Int))), (3, (0, l3)), (4, (0, l4)), (5, (0, (w32 (l5 + 1))))] ⟨rfl, rfl, rfl, rfl, rfl, rfl, trivial⟩ ?_
        exact ih3 m7 (by omega) (by omega) (w32 (l5 + 1)) (w32_r _) s6 s6v hW
  unfold C_addTo7 at hW
  refine pq_k (pc' := 1) (v := (0, 0)) rfl rfl rfl (fun _ => rfl) ?_
  refine pq_s (pc' := 3) rfl rfl rfl rfl rfl ?_
  refine pq_w [(0, (2, ((2 : Nat) : Int))), (1, (2, ((l1 : Nat) : Int))), (2, (2, ((l2 : Nat) : Int))), (3, (0, l3)), (4, (0, l4)), (5, (0, 0))] ⟨rfl, rfl, rfl, rfl, rfl, rfl, trivial⟩ ?_
  obtain ⟨I9, hI9, hB9⟩ := hW
  exact J3 l1 l2 l3 l3r l4 l4r I9 hB9 N (by omega) 0 (⟨by decide, by decide⟩ : iR 0) s hv hI9
def C_multiply7_127 (K62 : Int × im_S → Prop) (l1 : Nat) (l2 : Nat) (l3 : Int) (l4 : Int) (s : im_S) (Q : im_S → Prop) : Prop := (K62 ((w32 (l4 + 1)), s))
def C_multiply7_74 (K62 : Int × im_S → Prop) (K74 : Int × im_S → Prop) (l1 : Nat) (l2 : Nat) (l3 : Int) (l4 : Int) (l5 : Int) (s : im_S) (Q : im_S → Prop) : Prop := (((cgf s l2 0) < l5 → (C_multiply7_127 K62 l1 l2 l3 l4 s Q)) ∧ (¬ ((cgf s l2 0) < l5) → ((8 < (w32 (l4 + l5)) → (C_multiply7_127 K62 l1 l2 l3 l4 s Q)) ∧ (¬ (8 < (w32 (l4 + l5))) → (caJ s 59 (w32 (l4 + l5)) → (caJ s (l1 + 1) l4 → (caJ s (l2 + 1) l5 → ((0 ≤ (w32 (l4 + l5)) ∧ (w32 (l4 + l5)) < gln 59) → ∀ s8, s8 = cpa s 59 (w32 (l4 + l5)) (w64 ((cga s 59 (w32 (l4 + l5))) + (w64 ((cga s (l1 + 1) l4) * (cga s (l2 + 1) l5))))) → (K74 ((w32 (l5 + 1)), s8))))))))))
def C_multiply7_62 (K62 : Int × im_S → Prop) (l1 : Nat) (l2 : Nat) (l3 : Int) (l4 : Int) (s : im_S) (Q : im_S → Prop) : Prop := (((cgf s l1 0) < l4 → (C_accept7 l1 l3 s (fun s12 => (Q s12)))) ∧ (¬ ((cgf s l1 0) < l4) → (ploop (fun (K : Int × im_S → Prop) (a : Int × im_S) => C_multiply7_74 K62 K l1 l2 l3 l4 a.1 a.2 Q) (0, s))))
def C_multiply7_38 (K38 : Int × im_S → Prop) (l1 : Nat) (l2 : Nat) (l3 : Int) (l4 : Int) (s : im_S) (Q : im_S → Prop) : Prop := ((8 < l4 → (ploop (fun (K : Int × im_S → Prop) (a : Int × im_S) => C_multiply7_62 K l1 l2 l3 a.1 a.2 Q) (0, s))) ∧ (¬ (8 < l4) → ((0 ≤ l4 ∧ l4 < gln 59) → ∀ s15, s15 = cpa s 59 l4 0 → (K38 ((w32 (l4 + 1)), s15)))))
def C_multiply7_35 (l1 : Nat) (l2 : Nat) (l3 : Int) (s : im_S) (Q : im_S → Prop) : Prop := (ploop (fun (K : Int × im_S → Prop) (a : Int × im_S) => C_multiply7_38 K l1 l2 l3 a.1 a.2 Q) (0, s))
def C_multiply7 (l1 : Nat) (l2 : Nat) (l3 : Int) (s : im_S) (Q : im_S → Prop) : Prop := (((cgf s l1 0) < 0 → (C_multiply7_35 l1 l2 l3 s Q)) ∧ (¬ ((cgf s l1 0) < 0) → (((cgf s l2 0) < 0 → (C_multiply7_35 l1 l2 l3 s Q)) ∧ (¬ ((cgf s l2 0) < 0) → (((w32 ((cgf s l1 0) + (cgf s l2 0))) ≤ 8 → (C_multiply7_35 l1 l2 l3 s Q)) ∧ (¬ ((w32 ((cgf s l1 0) + (cgf s l2 0))) ≤ 8) → (C_fail7 3 l3 s (fun s24 => (Q s24)))))))))
set_option maxRecDepth 16384 in
theorem c_multiply7 (L : Nat) (ys : Nat → Int32) (d : Nat) (s : im_S) (hv : jI s) (l1 : Nat) (l2 : Nat) (l3 : Int) (l3r : iR l3) (Q : im_S → Prop) (hW : C_multiply7 l1 l2 l3 s Q) : pcV L ys d 188 [(2, ((2 : Nat) : Int)), (2, ((l1 : Nat) : Int)), (2, ((l2 : Nat) : Int)), (0, l3)] s (fun s9 => jI s9 ∧ Q s9) := by
  intro res hres
  refine pq_start (M := rm_p_X7_multiply) (Q := (fun r : im_Re => r.1 = none ∧ (jI r.2 ∧ Q r.2))) om_X7_multiply (fun d N => ?_) res hres
  refine pq_w [(0, (2, ((2 : Nat) : Int))), (1, (2, ((l1 : Nat) : Int))), (2, (2, ((l2 : Nat) : Int))), (3, (0, l3))] ⟨rfl, rfl, rfl, rfl, trivial⟩ ?_
  have J62 : ∀ (l1 : Nat) (l2 : Nat) (l3 : Int) (l3r : iR l3) (I62 : Int × im_S → Prop) (hB62 : ∀ a : Int × im_S, I62 a → C_multiply7_62 I62 l1 l2 l3 a.1 a.2 Q), ∀ N62 : Nat, N62 ≤ N → ∀ (l4 : Int) (l4r : iR l4) (s : im_S) (hv : jI s), I62 (l4, s) → pq L ys d N62 rm_p_X7_multiply (62, [(0, (2, ((2 : Nat) : Int))), (1, (2, ((l1 : Nat) : Int))), (2, (2, ((l2 : Nat) : Int))), (3, (0, l3)), (4, (0, l4))], [], s) (fun r : im_Re => r.1 = none ∧ (jI r.2 ∧ Q r.2)) := by
    intro l1 l2 l3 l3r I62 hB62 N62
    induction N62 using Nat.strongRecOn with
    | _ N62 ih62 =>
      intro hN62 l4 l4r s hv hI
      have hW : C_multiply7_62 I62 l1 l2 l3 l4 s Q := hB62 (l4, s) hI
      have J127 : ∀ N127 : Nat, N127 ≤ N62 → ∀ (l4 : Int) (l4r : iR l4) (s : im_S) (hv : jI s), C_multiply7_127 I62 l1 l2 l3 l4 s Q → pq L ys d N127 rm_p_X7_multiply (127, [(0, (2, ((2 : Nat) : Int))), (1, (2, ((l1 : Nat) : Int))), (2, (2, ((l2 : Nat) : Int))), (3, (0, l3)), (4, (0, l4))], [], s) (fun r : im_Re => r.1 = none ∧ (jI r.2 ∧ Q r.2)) := by
        intro N127 hN127 l4 l4r s hv hW
        unfold C_multiply7_127 at hW
        refine pq_inc (pc' := 130) rfl rfl rfl rfl ?_
        refine pq_gotoT (pc' := 62) rfl rfl (fun m1 m1l => ?_)
        refine pq_w [(0, (2, ((2 : Nat) : Int))), (1, (2, ((l1 : Nat) : Int))), (2, (2, ((l2 : Nat) : Int))), (3, (0, l3)), (4, (0, (w32 (l4 + 1))))] ⟨rfl, rfl, rfl, rfl, rfl, trivial⟩ ?_
        exact ih62 m1 (by omega) (by omega) (w32 (l4 + 1)) (w32_r _) s hv hW
      have J74 : ∀ (l4 : Int) (l4r : iR l4) (I74 : Int × im_S → Prop) (hB74 : ∀ a : Int × im_S, I74 a → C_multiply7_74 I62 I74 l1 l2 l3 l4 a.1 a.2 Q), ∀ N74 : Nat, N74 ≤ N62 → ∀ (l5 : Int) (l5r : iR l5) (s : im_S) (hv : jI s), I74 (l5, s) → pq L ys d N74 rm_p_X7_multiply (74, [(0, (2, ((2 : Nat) : Int))), (1, (2, ((l1 : Nat) : Int))), (2, (2, ((l2 : Nat) : Int))), (3, (0, l3)), (4, (0, l4)), (5, (0, l5))], [], s) (fun r : im_Re => r.1 = none ∧ (jI r.2 ∧ Q r.2)) := by
        intro l4 l4r I74 hB74 N74
        induction N74 using Nat.strongRecOn with
        | _ N74 ih74 =>
          intro hN74 l5 l5r s hv hI
          have hW : C_multiply7_74 I62 I74 l1 l2 l3 l4 l5 s Q := hB74 (l5, s) hI
          unfold C_multiply7_74 at hW
          refine pq_l (pc' := 76) rfl rfl rfl rfl rfl ?_
          refine pq_l (pc' := 77) rfl rfl rfl rfl rfl ?_
          refine pq_gi (pc' := 80) rfl rfl rfl rfl rfl (fun r2 => ?_)
          refine pq_c_gt (pt := 127) (pc' := 83) rfl rfl rfl (fun c3 => ?_) (fun c3 => ?_)
          · have hW := hW.1 c3
            refine pq_w [(0, (2, ((2 : Nat) : Int))), (1, (2, ((l1 : Nat) : Int))), (2, (2, ((l2 : Nat) : Int))), (3, (0, l3)), (4, (0, l4))] ⟨rfl, rfl, rfl, rfl, rfl, trivial⟩ ?_
            exact J127 N74 (by omega) l4 l4r s hv hW
          · have hW := hW.2 c3
            refine pq_l (pc' := 85) rfl rfl rfl rfl rfl ?_
            refine pq_l (pc' := 87) rfl rfl rfl rfl rfl ?_
            refine pq_add (pc' := 88) rfl rfl ?_
            refine pq_k (pc' := 90) (v := (0, 8)) rfl rfl rfl (fun _ => rfl) ?_
            refine pq_c_gt (pt := 127) (pc' := 93) rfl rfl rfl (fun c4 => ?_) (fun c4 => ?_)
            · have hW := hW.1 c4
              refine pq_w [(0, (2, ((2 : Nat) : Int))), (1, (2, ((l1 : Nat) : Int))), (2, (2, ((l2 : Nat) : Int))), (3, (0, l3)), (4, (0, l4))] ⟨rfl, rfl, rfl, rfl, rfl, trivial⟩ ?_
              exact J127 N74 (by omega) l4 l4r s hv hW
            · have hW := hW.2 c4
              refine pq_l (pc' := 94) rfl rfl rfl rfl rfl ?_
              refine pq_gr (pc' := 97) (c := 59) (v := 59) rfl rfl rfl rfl rfl rfl hv ?_
              refine pq_l (pc' := 99) rfl rfl rfl rfl rfl ?_
              refine pq_l (pc' := 101) rfl rfl rfl rfl rfl ?_
              refine pq_add (pc' := 102) rfl rfl ?_
              refine pq_x (pc' := 103) rfl rfl rfl (fun _ => rfl) ?_
              refine pq_la (pc' := 104) rfl rfl (fun r5a r5b r5 => ?_)
              have hW := hW ⟨⟨r5a, r5b⟩, r5⟩
              refine pq_l (pc' := 105) rfl rfl rfl rfl rfl ?_
              refine pq_gr (pc' := 108) (c := (l1 + 1)) (v := 0) rfl rfl rfl rfl rfl rfl hv ?_
              refine pq_l (pc' := 110) rfl rfl rfl rfl rfl ?_
              refine pq_la (pc' := 111) rfl rfl (fun r6a r6b r6 => ?_)
              have hW := hW ⟨⟨r6a, r6b⟩, r6⟩
              refine pq_l (pc' := 112) rfl rfl rfl rfl rfl ?_
              refine pq_gr (pc' := 115) (c := (l2 + 1)) (v := 0) rfl rfl rfl rfl rfl rfl hv ?_
              refine pq_l (pc' := 117) rfl rfl rfl rfl rfl ?_
              refine pq_la (pc' := 118) rfl rfl (fun r7a r7b r7 => ?_)
              have hW := hW ⟨⟨r7a, r7b⟩, r7⟩
              refine pq_lmul (pc' := 119) rfl rfl ?_
              refine pq_ladd (pc' := 120) rfl rfl ?_
              refine pq_ls (pc' := 121) rfl rfl hv (fun s8a s8b s8 s8e s8v => ?_)
              have hW := hW ⟨s8a, s8b⟩ s8 s8e
              refine pq_inc (pc' := 124) rfl rfl rfl rfl ?_
              refine pq_gotoT (pc' := 74) rfl rfl (fun m9 m9l => ?_)
              refine pq_w [(0, (2, ((2 : Nat) : Int))), (1, (2, ((l1 : Nat) : Int))), (2, (2, ((l2 : Nat) : Int))), (3, (0, l3)), (4, (0, l4)), (5, (0, (w32 (l5 + 1))))] ⟨rfl, rfl, rfl, rfl, rfl, rfl, trivial⟩ ?_
              exact ih74 m9 (by omega) (by omega) (w32 (l5 + 1)) (w32_r _) s8 s8v hW
      unfold C_multiply7_62 at hW
      refine pq_l (pc' := 64) rfl rfl rfl rfl rfl ?_
      refine pq_l (pc' := 65) rfl rfl rfl rfl rfl ?_
      refine pq_gi (pc' := 68) rfl rfl rfl rfl rfl (fun r10 => ?_)
      refine pq_c_gt (pt := 133) (pc' := 71) rfl rfl rfl (fun c11 => ?_) (fun c11 => ?_)
      · have hW := hW.1 c11
        refine pq_l (pc' := 134) rfl rfl rfl rfl rfl ?_
        refine pq_l (pc' := 135) rfl rfl rfl rfl rfl ?_
        refine pq_l (pc' := 136) rfl rfl rfl rfl rfl ?_
        refine pq_cVV (pc' := 139) rfl rfl rfl rfl rfl (c_accept7 L ys d s hv l1 l3 l3r _ hW) (fun s12 hr => ?_)
        obtain ⟨s12v, hW⟩ := hr
        exact pq_vret rfl ⟨rfl, s12v, hW⟩
      · have hW := hW.2 c11
        refine pq_k (pc' := 72) (v := (0, 0)) rfl rfl rfl (fun _ => rfl) ?_
        refine pq_s (pc' := 74) rfl rfl rfl rfl rfl ?_
        refine pq_w [(0, (2, ((2 : Nat) : Int))), (1, (2, ((l1 : Nat) : Int))), (2, (2, ((l2 : Nat) : Int))), (3, (0, l3)), (4, (0, l4)), (5, (0, 0))] ⟨rfl, rfl, rfl, rfl, rfl, rfl, trivial⟩ ?_
        obtain ⟨I9, hI9, hB9⟩ := hW
        exact J74 l4 l4r I9 hB9 N62 (by omega) 0 (⟨by decide, by decide⟩ : iR 0) s hv hI9
  have J38 : ∀ (l1 : Nat) (l2 : Nat) (l3 : Int) (l3r : iR l3) (I38 : Int × im_S → Prop) (hB38 : ∀ a : Int × im_S, I38 a → C_multiply7_38 I38 l1 l2 l3 a.1 a.2 Q), ∀ N38 : Nat, N38 ≤ N → ∀ (l4 : Int) (l4r : iR l4) (s : im_S) (hv : jI s), I38 (l4, s) → pq L ys d N38 rm_p_X7_multiply (38, [(0, (2, ((2 : Nat) : Int))), (1, (2, ((l1 : Nat) : Int))), (2, (2, ((l2 : Nat) : Int))), (3, (0, l3)), (4, (0, l4))], [], s) (fun r : im_Re => r.1 = none ∧ (jI r.2 ∧ Q r.2)) := by
    intro l1 l2 l3 l3r I38 hB38 N38
    induction N38 using Nat.strongRecOn with
    | _ N38 ih38 =>
      intro hN38 l4 l4r s hv hI
      have hW : C_multiply7_38 I38 l1 l2 l3 l4 s Q := hB38 (l4, s) hI
      unfold C_multiply7_38 at hW
      refine pq_l (pc' := 40) rfl rfl rfl rfl rfl ?_
      refine pq_k (pc' := 42) (v := (0, 8)) rfl rfl rfl (fun _ => rfl) ?_
      refine pq_c_gt (pt := 59) (pc' := 45) rfl rfl rfl (fun c14 => ?_) (fun c14 => ?_)
      · have hW := hW.1 c14
        refine pq_k (pc' := 60) (v := (0, 0)) rfl rfl rfl (fun _ => rfl) ?_
        refine pq_s (pc' := 62) rfl rfl rfl rfl rfl ?_
        refine pq_w [(0, (2, ((2 : Nat) : Int))), (1, (2, ((l1 : Nat) : Int))), (2, (2, ((l2 : Nat) : Int))), (3, (0, l3)), (4, (0, 0))] ⟨rfl, rfl, rfl, rfl, rfl, trivial⟩ ?_
        obtain ⟨I9, hI9, hB9⟩ := hW
        exact J62 l1 l2 l3 l3r I9 hB9 N38 (by omega) 0 (⟨by decide, by decide⟩ : iR 0) s hv hI9
      · have hW := hW.2 c14
        refine pq_l (pc' := 46) rfl rfl rfl rfl rfl ?_
        refine pq_gr (pc' := 49) (c := 59) (v := 59) rfl rfl rfl rfl rfl rfl hv ?_
        refine pq_l (pc' := 51) rfl rfl rfl rfl rfl ?_
        refine pq_k (pc' := 52) (v := (1, 0)) rfl rfl rfl (fun _ => rfl) ?_
        refine pq_ls (pc' := 53) rfl rfl hv (fun s15a s15b s15 s15e s15v => ?_)
        have hW := hW ⟨s15a, s15b⟩ s15 s15e
        refine pq_inc (pc' := 56) rfl rfl rfl rfl ?_
        refine pq_gotoT (pc' := 38) rfl rfl (fun m16 m16l => ?_)
        refine pq_w [(0, (2, ((2 : Nat) : Int))), (1, (2, ((l1 : Nat) : Int))), (2, (2, ((l2 : Nat) : Int))), (3, (0, l3)), (4, (0, (w32 (l4 + 1))))] ⟨rfl, rfl, rfl, rfl, rfl, trivial⟩ ?_
        exact ih38 m16 (by omega) (by omega) (w32 (l4 + 1)) (w32_r _) s15 s15v hW
  have J35 : ∀ N35 : Nat, N35 ≤ N → ∀ (l1 : Nat) (l2 : Nat) (l3 : Int) (l3r : iR l3) (s : im_S) (hv : jI s), C_multiply7_35 l1 l2 l3 s Q → pq L ys d N35 rm_p_X7_multiply (35, [(0, (2, ((2 : Nat) : Int))), (1, (2, ((l1 : Nat) : Int))), (2, (2, ((l2 : Nat) : Int))), (3, (0, l3))], [], s) (fun r : im_Re => r.1 = none ∧ (jI r.2 ∧ Q r.2)) := by
    intro N35 hN35 l1 l2 l3 l3r s hv hW
    unfold C_multiply7_35 at hW
    refine pq_k (pc' := 36) (v := (0, 0)) rfl rfl rfl (fun _ => rfl) ?_
    refine pq_s (pc' := 38) rfl rfl rfl rfl rfl ?_
    refine pq_w [(0, (2, ((2 : Nat) : Int))), (1, (2, ((l1 : Nat) : Int))), (2, (2, ((l2 : Nat) : Int))), (3, (0, l3)), (4, (0, 0))] ⟨rfl, rfl, rfl, rfl, rfl, trivial⟩ ?_
    obtain ⟨I9, hI9, hB9⟩ := hW
    exact J38 l1 l2 l3 l3r I9 hB9 N35 (by omega) 0 (⟨by decide, by decide⟩ : iR 0) s hv hI9
  unfold C_multiply7 at hW
  refine pq_l (pc' := 1) rfl rfl rfl rfl rfl ?_
  refine pq_gi (pc' := 4) rfl rfl rfl rfl rfl (fun r17 => ?_)
  refine pq_z_lt (pt := 35) (pc' := 7) rfl rfl rfl (fun c18 => ?_) (fun c18 => ?_)
  · have hW := hW.1 c18
    refine pq_w [(0, (2, ((2 : Nat) : Int))), (1, (2, ((l1 : Nat) : Int))), (2, (2, ((l2 : Nat) : Int))), (3, (0, l3))] ⟨rfl, rfl, rfl, rfl, trivial⟩ ?_
    exact J35 N (by omega) l1 l2 l3 l3r s hv hW
  · have hW := hW.2 c18
    refine pq_l (pc' := 8) rfl rfl rfl rfl rfl ?_
    refine pq_gi (pc' := 11) rfl rfl rfl rfl rfl (fun r19 => ?_)
    refine pq_z_lt (pt := 35) (pc' := 14) rfl rfl rfl (fun c20 => ?_) (fun c20 => ?_)
    · have hW := hW.1 c20
      refine pq_w [(0, (2, ((2 : Nat) : Int))), (1, (2, ((l1 : Nat) : Int))), (2, (2, ((l2 : Nat) : Int))), (3, (0, l3))] ⟨rfl, rfl, rfl, rfl, trivial⟩ ?_
      exact J35 N (by omega) l1 l2 l3 l3r s hv hW
    · have hW := hW.2 c20
      refine pq_l (pc' := 15) rfl rfl rfl rfl rfl ?_
      refine pq_gi (pc' := 18) rfl rfl rfl rfl rfl (fun r21 => ?_)
      refine pq_l (pc' := 19) rfl rfl rfl rfl rfl ?_
      refine pq_gi (pc' := 22) rfl rfl rfl rfl rfl (fun r22 => ?_)
      refine pq_add (pc' := 23) rfl rfl ?_
      refine pq_k (pc' := 25) (v := (0, 8)) rfl rfl rfl (fun _ => rfl) ?_
      refine pq_c_le (pt := 35) (pc' := 28) rfl rfl rfl (fun c23 => ?_) (fun c23 => ?_)
      · have hW := hW.1 c23
        refine pq_w [(0, (2, ((2 : Nat) : Int))), (1, (2, ((l1 : Nat) : Int))), (2, (2, ((l2 : Nat) : Int))), (3, (0, l3))] ⟨rfl, rfl, rfl, rfl, trivial⟩ ?_
        exact J35 N (by omega) l1 l2 l3 l3r s hv hW
      · have hW := hW.2 c23
        refine pq_l (pc' := 29) rfl rfl rfl rfl rfl ?_
        refine pq_k (pc' := 30) (v := (0, 3)) rfl rfl rfl (fun _ => rfl) ?_
        refine pq_l (pc' := 31) rfl rfl rfl rfl rfl ?_
        refine pq_cVV (pc' := 34) rfl rfl rfl rfl rfl (c_fail7 L ys d s hv 3 (⟨by decide, by decide⟩ : iR 3) l3 l3r _ hW) (fun s24 hr => ?_)
        obtain ⟨s24v, hW⟩ := hr
        exact pq_vret rfl ⟨rfl, s24v, hW⟩
def C_raise7_96 (s : im_S) (Q : im_S → Prop) : Prop := (Q s)
def C_raise7_66 (K66 : Int × im_S → Prop) (l1 : Nat) (l3 : Int) (l4 : Int) (l5 : Int) (s : im_S) (Q : im_S → Prop) : Prop := ((l4 ≤ l5 → (C_raise7_96 s Q)) ∧ (¬ (l4 ≤ l5) → ((¬ ((cgf s 2 4) = 0) → (C_raise7_96 s Q)) ∧ ((cgf s 2 4) = 0 → (C_multiply7 l1 57 l3 s (fun s4 => (K66 ((w32 (l5 + 1)), s4))))))))
def C_raise7_63 (l1 : Nat) (l3 : Int) (l4 : Int) (s : im_S) (Q : im_S → Prop) : Prop := (ploop (fun (K : Int × im_S → Prop) (a : Int × im_S) => C_raise7_66 K l1 l3 l4 a.1 a.2 Q) (1, s))
def C_raise7 (l1 : Nat) (l2 : Int) (l3 : Int) (s : im_S) (Q : im_S → Prop) : Prop := (((cgf s 2 4) = 0 → ((¬ (l2 = 0) → (C_copy6 57 l1 s (fun s10 => ((0 < (cgf s10 57 0) → (C_raise7_63 l1 l3 l2 s10 Q)) ∧ (¬ (0 < (cgf s10 57 0)) → (caJ s10 (57 + 1) 0 → (C_J9_abs_067f4 (cga s10 (57 + 1) 0) s10 (fun z16 s15 => (∀ v218 : Int, v218 = (if 1 < z16 then l2 else (w32 (2 - (remI l2 2)))) → (C_raise7_63 l1 l3 v218 s15 Q)))))))))) ∧ (l2 = 0 → (C_setConstant6 l1 1 s (fun s220 => (Q s220)))))) ∧ (¬ ((cgf s 2 4) = 0) → (Q s)))
set_option maxRecDepth 16384 in
theorem c_raise7 (L : Nat) (ys : Nat → Int32) (d : Nat) (s : im_S) (hv : jI s) (l1 : Nat) (l2 : Int) (l2r : iR l2) (l3 : Int) (l3r : iR l3) (Q : im_S → Prop) (hW : C_raise7 l1 l2 l3 s Q) : pcV L ys d 190 [(2, ((2 : Nat) : Int)), (2, ((l1 : Nat) : Int)), (0, l2), (0, l3)] s (fun s9 => jI s9 ∧ Q s9) := by
  intro res hres
  refine pq_start (M := rm_p_X7_raise) (Q := (fun r : im_Re => r.1 = none ∧ (jI r.2 ∧ Q r.2))) om_X7_raise (fun d N => ?_) res hres
  refine pq_w [(0, (2, ((2 : Nat) : Int))), (1, (2, ((l1 : Nat) : Int))), (2, (0, l2)), (3, (0, l3))] ⟨rfl, rfl, rfl, rfl, trivial⟩ ?_
  have J96 : ∀ N96 : Nat, N96 ≤ N → ∀ (s : im_S) (hv : jI s), C_raise7_96 s Q → pq L ys d N96 rm_p_X7_raise (96, [], [], s) (fun r : im_Re => r.1 = none ∧ (jI r.2 ∧ Q r.2)) := by
    intro N96 hN96 s hv hW
    unfold C_raise7_96 at hW
    exact pq_vret rfl ⟨rfl, hv, hW⟩
  have J66 : ∀ (l1 : Nat) (l3 : Int) (l3r : iR l3) (l4 : Int) (l4r : iR l4) (I66 : Int × im_S → Prop) (hB66 : ∀ a : Int × im_S, I66 a → C_raise7_66 I66 l1 l3 l4 a.1 a.2 Q), ∀ N66 : Nat, N66 ≤ N → ∀ (l5 : Int) (l5r : iR l5) (s : im_S) (hv : jI s), I66 (l5, s) → pq L ys d N66 rm_p_X7_raise (66, [(0, (2, ((2 : Nat) : Int))), (1, (2, ((l1 : Nat) : Int))), (3, (0, l3)), (4, (0, l4)), (5, (0, l5))], [], s) (fun r : im_Re => r.1 = none ∧ (jI r.2 ∧ Q r.2)) := by
    intro l1 l3 l3r l4 l4r I66 hB66 N66
    induction N66 using Nat.strongRecOn with
    | _ N66 ih66 =>
      intro hN66 l5 l5r s hv hI
      have hW : C_raise7_66 I66 l1 l3 l4 l5 s Q := hB66 (l5, s) hI
      unfold C_raise7_66 at hW
      refine pq_l (pc' := 68) rfl rfl rfl rfl rfl ?_
      refine pq_l (pc' := 70) rfl rfl rfl rfl rfl ?_
      refine pq_c_ge (pt := 96) (pc' := 73) rfl rfl rfl (fun c1 => ?_) (fun c1 => ?_)
      · have hW := hW.1 c1
        refine pq_w [] trivial ?_
        exact J96 N66 (by omega) s hv hW
      · have hW := hW.2 c1
        refine pq_l (pc' := 74) rfl rfl rfl rfl rfl ?_
        refine pq_gi (pc' := 77) rfl rfl rfl rfl rfl (fun r2 => ?_)
        refine pq_z_ne (pt := 96) (pc' := 80) rfl rfl rfl (fun c3 => ?_) (fun c3 => ?_)
        · have hW := hW.1 c3
          refine pq_w [] trivial ?_
          exact J96 N66 (by omega) s hv hW
        · have hW := hW.2 c3
          refine pq_l (pc' := 81) rfl rfl rfl rfl rfl ?_
          refine pq_l (pc' := 82) rfl rfl rfl rfl rfl ?_
          refine pq_l (pc' := 83) rfl rfl rfl rfl rfl ?_
          refine pq_gr (pc' := 86) (c := 57) (v := 57) rfl rfl rfl rfl rfl rfl hv ?_
          refine pq_l (pc' := 87) rfl rfl rfl rfl rfl ?_
          refine pq_cVV (pc' := 90) rfl rfl rfl rfl rfl (c_multiply7 L ys d s hv l1 57 l3 l3r _ hW) (fun s4 hr => ?_)
          obtain ⟨s4v, hW⟩ := hr
          refine pq_inc (pc' := 93) rfl rfl rfl rfl ?_
          refine pq_gotoT (pc' := 66) rfl rfl (fun m6 m6l => ?_)
          refine pq_w [(0, (2, ((2 : Nat) : Int))), (1, (2, ((l1 : Nat) : Int))), (3, (0, l3)), (4, (0, l4)), (5, (0, (w32 (l5 + 1))))] ⟨rfl, rfl, rfl, rfl, rfl, trivial⟩ ?_
          exact ih66 m6 (by omega) (by omega) (w32 (l5 + 1)) (w32_r _) s4 s4v hW
  have J63 : ∀ N63 : Nat, N63 ≤ N → ∀ (l1 : Nat) (l3 : Int) (l3r : iR l3) (l4 : Int) (l4r : iR l4) (s : im_S) (hv : jI s), C_raise7_63 l1 l3 l4 s Q → pq L ys d N63 rm_p_X7_raise (63, [(0, (2, ((2 : Nat) : Int))), (1, (2, ((l1 : Nat) : Int))), (3, (0, l3)), (4, (0, l4))], [], s) (fun r : im_Re => r.1 = none ∧ (jI r.2 ∧ Q r.2)) := by
    intro N63 hN63 l1 l3 l3r l4 l4r s hv hW
    unfold C_raise7_63 at hW
    refine pq_k (pc' := 64) (v := (0, 1)) rfl rfl rfl (fun _ => rfl) ?_
    refine pq_s (pc' := 66) rfl rfl rfl rfl rfl ?_
    refine pq_w [(0, (2, ((2 : Nat) : Int))), (1, (2, ((l1 : Nat) : Int))), (3, (0, l3)), (4, (0, l4)), (5, (0, 1))] ⟨rfl, rfl, rfl, rfl, rfl, trivial⟩ ?_
    obtain ⟨I9, hI9, hB9⟩ := hW
    exact J66 l1 l3 l3r l4 l4r I9 hB9 N63 (by omega) 1 (⟨by decide, by decide⟩ : iR 1) s hv hI9
  unfold C_raise7 at hW
  refine pq_l (pc' := 1) rfl rfl rfl rfl rfl ?_
  refine pq_gi (pc' := 4) rfl rfl rfl rfl rfl (fun r7 => ?_)
  refine pq_z_eq (pt := 8) (pc' := 7) rfl rfl rfl (fun c8 => ?_) (fun c8 => ?_)
  · have hW := hW.1 c8
    refine pq_l (pc' := 9) rfl rfl rfl rfl rfl ?_
    refine pq_z_ne (pt := 18) (pc' := 12) rfl rfl rfl (fun c9 => ?_) (fun c9 => ?_)
    · have hW := hW.1 c9
      refine pq_l (pc' := 19) rfl rfl rfl rfl rfl ?_
      refine pq_gr (pc' := 22) (c := 57) (v := 57) rfl rfl rfl rfl rfl rfl hv ?_
      refine pq_l (pc' := 23) rfl rfl rfl rfl rfl ?_
      refine pq_cVV (pc' := 26) rfl rfl rfl rfl rfl (c_copy6 L ys d s hv 57 l1 _ hW) (fun s10 hr => ?_)
      obtain ⟨s10v, hW⟩ := hr
      refine pq_l (pc' := 27) rfl rfl rfl rfl rfl ?_
      refine pq_s (pc' := 29) rfl rfl rfl rfl rfl ?_
      refine pq_l (pc' := 30) rfl rfl rfl rfl rfl ?_
      refine pq_gr (pc' := 33) (c := 57) (v := 57) rfl rfl rfl rfl rfl rfl s10v ?_
      refine pq_gi (pc' := 36) rfl rfl rfl rfl rfl (fun r12 => ?_)
      refine pq_z_gt (pt := 63) (pc' := 39) rfl rfl rfl (fun c13 => ?_) (fun c13 => ?_)
      · have hW := hW.1 c13
        refine pq_w [(0, (2, ((2 : Nat) : Int))), (1, (2, ((l1 : Nat) : Int))), (3, (0, l3)), (4, (0, l2))] ⟨rfl, rfl, rfl, rfl, trivial⟩ ?_
        exact J63 N (by omega) l1 l3 l3r l2 l2r s10 s10v hW
      · have hW := hW.2 c13
        refine pq_l (pc' := 40) rfl rfl rfl rfl rfl ?_
        refine pq_gr (pc' := 43) (c := 57) (v := 57) rfl rfl rfl rfl rfl rfl s10v ?_
        refine pq_gr (pc' := 46) (c := (57 + 1)) (v := 0) rfl rfl rfl rfl rfl rfl s10v ?_
        refine pq_k (pc' := 47) (v := (0, 0)) rfl rfl rfl (fun _ => rfl) ?_
        refine pq_la (pc' := 48) rfl rfl (fun r14a r14b r14 => ?_)
        have hW := hW ⟨⟨r14a, r14b⟩, r14⟩
        refine pq_cSI (pc' := 51) rfl rfl rfl rfl rfl (c_J9_abs_067f4 L ys d s10 s10v (cga s10 (57 + 1) 0) r14 _ hW) (fun z16 s15 hr => ?_)
        obtain ⟨s15v, z16r, hW⟩ := hr
        refine pq_k (pc' := 52) (v := (1, 1)) rfl rfl rfl (fun _ => rfl) ?_
        refine pq_lcmp (pc' := 53) rfl rfl z16r (⟨by decide, by decide⟩ : lR 1) (fun z17 z17c => ?_)
        have J219 : ∀ v218 : Int, iR v218 → ((C_raise7_63 l1 l3 v218 s15 Q)) → pq L ys d N rm_p_X7_raise (63, [(0, (2, ((2 : Nat) : Int))), (1, (2, ((l1 : Nat) : Int))), (3, (0, l3)), (4, (0, v218))], [], s15) (fun r : im_Re => r.1 = none ∧ (jI r.2 ∧ Q r.2)) := by
          intro v218 v218r hW
          refine pq_w [(0, (2, ((2 : Nat) : Int))), (1, (2, ((l1 : Nat) : Int))), (3, (0, l3)), (4, (0, v218))] ⟨rfl, rfl, rfl, rfl, trivial⟩ ?_
          exact J63 N (by omega) l1 l3 l3r v218 v218r s15 s15v hW
        refine pq_z_gt (pt := 63) (pc' := 56) rfl rfl rfl (fun c18 => ?_) (fun c18 => ?_)
        · have c18 : 1 < z16 := by omega
          refine pq_w [(0, (2, ((2 : Nat) : Int))), (1, (2, ((l1 : Nat) : Int))), (3, (0, l3)), (4, (0, l2))] ⟨rfl, rfl, rfl, rfl, trivial⟩ ?_
          exact J219 l2 l2r (hW _ (by rw [if_pos c18]))
        · have c18 : ¬ (1 < z16) := by omega
          refine pq_k (pc' := 57) (v := (0, 2)) rfl rfl rfl (fun _ => rfl) ?_
          refine pq_l (pc' := 58) rfl rfl rfl rfl rfl ?_
          refine pq_k (pc' := 59) (v := (0, 2)) rfl rfl rfl (fun _ => rfl) ?_
          refine pq_irem (pc' := 60) rfl rfl ?_
          refine pq_sub (pc' := 61) rfl rfl ?_
          refine pq_s (pc' := 63) rfl rfl rfl rfl rfl ?_
          refine pq_w [(0, (2, ((2 : Nat) : Int))), (1, (2, ((l1 : Nat) : Int))), (3, (0, l3)), (4, (0, (w32 (2 - (remI l2 2)))))] ⟨rfl, rfl, rfl, rfl, trivial⟩ ?_
          exact J219 (w32 (2 - (remI l2 2))) (w32_r _) (hW _ (by rw [if_neg (fun z => c18 z)]))
    · have hW := hW.2 c9
      refine pq_l (pc' := 13) rfl rfl rfl rfl rfl ?_
      refine pq_k (pc' := 14) (v := (1, 1)) rfl rfl rfl (fun _ => rfl) ?_
      refine pq_cVV (pc' := 17) rfl rfl rfl rfl rfl (c_setConstant6 L ys d s hv l1 1 (⟨by decide, by decide⟩ : lR 1) _ hW) (fun s220 hr => ?_)
      obtain ⟨s220v, hW⟩ := hr
      exact pq_vret rfl ⟨rfl, s220v, hW⟩
  · have hW := hW.2 c8
    exact pq_vret rfl ⟨rfl, hv, hW⟩
