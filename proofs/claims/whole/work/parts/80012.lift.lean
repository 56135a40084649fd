/-! THE READER BY VALUE: small methods, lifted by program -/
def C_J0_isLatin1_aae02_0_2v (s : im_S) (Q : Int → im_S → Prop) : Prop := (∀ v201 : Int, v201 = (if (1 : Int) = 0 then 0 else (if ¬ ((0 : Int) = 0) then 0 else 1)) → (Q v201 s))
set_option maxRecDepth 16384 in
theorem c_J0_isLatin1_aae02_0_2v (L : Nat) (ys : Nat → Int32) (d : Nat) (s : im_S) (hv : jI s) (Q : Int → im_S → Prop) (hW : C_J0_isLatin1_aae02_0_2v s Q) : pcI L ys 0 d 230 [(4, 2)] s (fun z9 s9 => jI s9 ∧ iR z9 ∧ Q z9 s9) := by
  intro res hres
  refine pq_start (M := rm_p_J0_isLatin1_aae02) (Q := (fun r : im_Re => ∃ z, r.1 = some (0, z) ∧ (jI r.2 ∧ iR z ∧ Q z r.2))) om_J0_isLatin1_aae02 (fun d N => ?_) res hres
  refine pq_w [(0, (4, 2))] ⟨rfl, trivial⟩ ?_
  unfold C_J0_isLatin1_aae02_0_2v at hW
  refine pq_k (pc' := 3) (v := (0, 1)) rfl rfl rfl (fun _ => rfl) ?_
  have J202 : ∀ v201 : Int, iR v201 → ((Q v201 s)) → pq L ys d N rm_p_J0_isLatin1_aae02 (18, [], [(0, v201)], s) (fun r : im_Re => ∃ z, r.1 = some (0, z) ∧ (jI r.2 ∧ iR z ∧ Q z r.2)) := by
    intro v201 v201r hW
    exact pq_iret rfl ⟨_, rfl, hv, v201r, hW⟩
  refine pq_z_eq (pt := 17) (pc' := 6) rfl rfl rfl (fun c1 => ?_) (fun c1 => ?_)
  · refine pq_k (pc' := 18) (v := (0, 0)) rfl rfl rfl (fun _ => rfl) ?_
    refine pq_w [] trivial ?_
    exact J202 0 (⟨by decide, by decide⟩ : iR 0) (hW _ (by rw [if_pos c1]))
  · refine pq_l (pc' := 7) rfl rfl rfl rfl rfl ?_
    refine pq_x (pc' := 10) (st' := (0, (0 : Int)) :: _) rfl rfl rfl (fun _ => rfl) ?_
    refine pq_z_ne (pt := 17) (pc' := 13) rfl rfl rfl (fun c2 => ?_) (fun c2 => ?_)
    · refine pq_k (pc' := 18) (v := (0, 0)) rfl rfl rfl (fun _ => rfl) ?_
      refine pq_w [] trivial ?_
      exact J202 0 (⟨by decide, by decide⟩ : iR 0) (hW _ (by rw [if_neg (fun z => c1 z), if_pos c2]))
    · refine pq_k (pc' := 14) (v := (0, 1)) rfl rfl rfl (fun _ => rfl) ?_
      refine pq_goto (pc' := 18) rfl rfl ?_
      refine pq_w [] trivial ?_
      exact J202 1 (⟨by decide, by decide⟩ : iR 1) (hW _ (by rw [if_neg (fun z => c1 z), if_neg (by omega)]))
def C_J0_coder_7d493_0_2v (s : im_S) (Q : Int → im_S → Prop) : Prop := (∀ v201 : Int, v201 = (if (1 : Int) = 0 then 1 else (0 : Int)) → (Q v201 s))
set_option maxRecDepth 16384 in
theorem c_J0_coder_7d493_0_2v (L : Nat) (ys : Nat → Int32) (d : Nat) (s : im_S) (hv : jI s) (Q : Int → im_S → Prop) (hW : C_J0_coder_7d493_0_2v s Q) : pcI L ys 0 d 227 [(4, 2)] s (fun z9 s9 => jI s9 ∧ iR z9 ∧ Q z9 s9) := by
  intro res hres
  refine pq_start (M := rm_p_J0_coder_7d493) (Q := (fun r : im_Re => ∃ z, r.1 = some (0, z) ∧ (jI r.2 ∧ iR z ∧ Q z r.2))) om_J0_coder_7d493 (fun d N => ?_) res hres
  refine pq_w [(0, (4, 2))] ⟨rfl, trivial⟩ ?_
  unfold C_J0_coder_7d493_0_2v at hW
  refine pq_k (pc' := 3) (v := (0, 1)) rfl rfl rfl (fun _ => rfl) ?_
  have J202 : ∀ v201 : Int, iR v201 → ((Q v201 s)) → pq L ys d N rm_p_J0_coder_7d493 (14, [], [(0, v201)], s) (fun r : im_Re => ∃ z, r.1 = some (0, z) ∧ (jI r.2 ∧ iR z ∧ Q z r.2)) := by
    intro v201 v201r hW
    exact pq_iret rfl ⟨_, rfl, hv, v201r, hW⟩
  refine pq_z_eq (pt := 13) (pc' := 6) rfl rfl rfl (fun c1 => ?_) (fun c1 => ?_)
  · refine pq_k (pc' := 14) (v := (0, 1)) rfl rfl rfl (fun _ => rfl) ?_
    refine pq_w [] trivial ?_
    exact J202 1 (⟨by decide, by decide⟩ : iR 1) (hW _ (by rw [if_pos c1]))
  · refine pq_l (pc' := 7) rfl rfl rfl rfl rfl ?_
    refine pq_x (pc' := 10) (st' := (0, (0 : Int)) :: _) rfl rfl rfl (fun _ => rfl) ?_
    refine pq_goto (pc' := 14) rfl rfl ?_
    refine pq_w [] trivial ?_
    exact J202 (0 : Int) (⟨by decide, by decide⟩ : iR 0) (hW _ (by rw [if_neg (fun z => c1 z)]))
def C_J0_length_8abf5_0_2v (s : im_S) (Q : Int → im_S → Prop) : Prop := (C_J0_coder_7d493_0_2v s (fun z2 s1 => (Q (shrI 15 z2) s1)))
set_option maxRecDepth 16384 in
theorem c_J0_length_8abf5_0_2v (L : Nat) (ys : Nat → Int32) (d : Nat) (s : im_S) (hv : jI s) (Q : Int → im_S → Prop) (hW : C_J0_length_8abf5_0_2v s Q) : pcI L ys 0 d 231 [(4, 2)] s (fun z9 s9 => jI s9 ∧ iR z9 ∧ Q z9 s9) := by
  intro res hres
  refine pq_start (M := rm_p_J0_length_8abf5) (Q := (fun r : im_Re => ∃ z, r.1 = some (0, z) ∧ (jI r.2 ∧ iR z ∧ Q z r.2))) om_J0_length_8abf5 (fun d N => ?_) res hres
  refine pq_w [(0, (4, 2))] ⟨rfl, trivial⟩ ?_
  unfold C_J0_length_8abf5_0_2v at hW
  refine pq_l (pc' := 1) rfl rfl rfl rfl rfl ?_
  refine pq_x (pc' := 4) (st' := (4, 3) :: _) rfl rfl rfl (fun _ => rfl) ?_
  refine pq_x (pc' := 5) (st' := (0, 15) :: _) rfl rfl rfl (fun _ => rfl) ?_
  refine pq_l (pc' := 6) rfl rfl rfl rfl rfl ?_
  refine pq_cFI (pc' := 9) rfl rfl rfl rfl rfl (c_J0_coder_7d493_0_2v L ys d s hv  _ hW) (fun z2 s1 hr => ?_)
  obtain ⟨s1v, z2r, hW⟩ := hr
  refine pq_ishr (pc' := 10) rfl rfl ?_
  exact pq_iret rfl ⟨_, rfl, s1v, (shrI_r _ _), hW⟩
def C_J1_indexOfChar_4cfef_0_3v_7 (K7 : Int × im_S → Prop) (l3 : Int) (l4 : Int) (l5 : Int) (s : im_S) (Q : Int → im_S → Prop) : Prop := ((l3 ≤ l5 → (Q (-1) s)) ∧ (¬ (l3 ≤ l5) → ((¬ ((txv 3 l5) = l4) → (K7 ((w32 (l5 + 1)), s))) ∧ ((txv 3 l5) = l4 → (Q l5 s)))))
def C_J1_indexOfChar_4cfef_0_3v (l1 : Int) (l2 : Int) (l3 : Int) (s : im_S) (Q : Int → im_S → Prop) : Prop := (ploop (fun (K : Int × im_S → Prop) (a : Int × im_S) => C_J1_indexOfChar_4cfef_0_3v_7 K l3 (c8 l1) a.1 a.2 Q) (l2, s))
set_option maxRecDepth 16384 in
theorem c_J1_indexOfChar_4cfef_0_3v (L : Nat) (ys : Nat → Int32) (d : Nat) (s : im_S) (hv : jI s) (l1 : Int) (l1r : iR l1) (l2 : Int) (l2r : iR l2) (l3 : Int) (l3r : iR l3) (Q : Int → im_S → Prop) (hW : C_J1_indexOfChar_4cfef_0_3v l1 l2 l3 s Q) : pcI L ys 0 d 234 [(4, 3), (0, l1), (0, l2), (0, l3)] s (fun z9 s9 => jI s9 ∧ iR z9 ∧ Q z9 s9) := by
  intro res hres
  refine pq_start (M := rm_p_J1_indexOfChar_4cfef) (Q := (fun r : im_Re => ∃ z, r.1 = some (0, z) ∧ (jI r.2 ∧ iR z ∧ Q z r.2))) om_J1_indexOfChar_4cfef (fun d N => ?_) res hres
  refine pq_w [(0, (4, 3)), (1, (0, l1)), (2, (0, l2)), (3, (0, l3))] ⟨rfl, rfl, rfl, rfl, trivial⟩ ?_
  have J7 : ∀ (l3 : Int) (l3r : iR l3) (l4 : Int) (l4r : iR l4) (I7 : Int × im_S → Prop) (hB7 : ∀ a : Int × im_S, I7 a → C_J1_indexOfChar_4cfef_0_3v_7 I7 l3 l4 a.1 a.2 Q), ∀ N7 : Nat, N7 ≤ N → ∀ (l5 : Int) (l5r : iR l5) (s : im_S) (hv : jI s), I7 (l5, s) → pq L ys d N7 rm_p_J1_indexOfChar_4cfef (7, [(0, (4, 3)), (3, (0, l3)), (4, (0, l4)), (5, (0, l5))], [], s) (fun r : im_Re => ∃ z, r.1 = some (0, z) ∧ (jI r.2 ∧ iR z ∧ Q z r.2)) := by
    intro l3 l3r l4 l4r I7 hB7 N7
    induction N7 using Nat.strongRecOn with
    | _ N7 ih7 =>
      intro hN7 l5 l5r s hv hI
      have hW : C_J1_indexOfChar_4cfef_0_3v_7 I7 l3 l4 l5 s Q := hB7 (l5, s) hI
      unfold C_J1_indexOfChar_4cfef_0_3v_7 at hW
      refine pq_l (pc' := 9) rfl rfl rfl rfl rfl ?_
      refine pq_l (pc' := 10) rfl rfl rfl rfl rfl ?_
      refine pq_c_ge (pt := 31) (pc' := 13) rfl rfl rfl (fun c1 => ?_) (fun c1 => ?_)
      · have hW := hW.1 c1
        refine pq_k (pc' := 32) (v := (0, (-1))) rfl rfl rfl (fun _ => rfl) ?_
        exact pq_iret rfl ⟨_, rfl, hv, (⟨by decide, by decide⟩ : iR (-1)), hW⟩
      · have hW := hW.2 c1
        refine pq_l (pc' := 14) rfl rfl rfl rfl rfl ?_
        refine pq_l (pc' := 16) rfl rfl rfl rfl rfl ?_
        refine pq_tv (pc' := 17) rfl rfl ?_
        refine pq_l (pc' := 19) rfl rfl rfl rfl rfl ?_
        refine pq_c_ne (pt := 25) (pc' := 22) rfl rfl rfl (fun c2 => ?_) (fun c2 => ?_)
        · have hW := hW.1 c2
          refine pq_inc (pc' := 28) rfl rfl rfl rfl ?_
          refine pq_gotoT (pc' := 7) rfl rfl (fun m3 m3l => ?_)
          refine pq_w [(0, (4, 3)), (3, (0, l3)), (4, (0, l4)), (5, (0, (w32 (l5 + 1))))] ⟨rfl, rfl, rfl, rfl, trivial⟩ ?_
          exact ih7 m3 (by omega) (by omega) (w32 (l5 + 1)) (w32_r _) s hv hW
        · have hW := hW.2 c2
          refine pq_l (pc' := 24) rfl rfl rfl rfl rfl ?_
          exact pq_iret rfl ⟨_, rfl, hv, l5r, hW⟩
  unfold C_J1_indexOfChar_4cfef_0_3v at hW
  refine pq_l (pc' := 1) rfl rfl rfl rfl rfl ?_
  refine pq_i2b (pc' := 2) rfl rfl ?_
  refine pq_s (pc' := 4) rfl rfl rfl rfl rfl ?_
  refine pq_l (pc' := 5) rfl rfl rfl rfl rfl ?_
  refine pq_s (pc' := 7) rfl rfl rfl rfl rfl ?_
  refine pq_w [(0, (4, 3)), (3, (0, l3)), (4, (0, (c8 l1))), (5, (0, l2))] ⟨rfl, rfl, rfl, rfl, trivial⟩ ?_
  obtain ⟨I9, hI9, hB9⟩ := hW
  exact J7 l3 l3r (c8 l1) (c8_r _) I9 hB9 N (by omega) l2 l2r s hv hI9
def C_J1_indexOf_4cfef_0_3v (l1 : Int) (l2 : Int) (l3 : Int) (s : im_S) (Q : Int → im_S → Prop) : Prop := (C_J1_canEncode_9a6ad l1 s (fun z2 s1 => ((¬ (z2 = 0) → (C_J9_max_7cf53 l2 0 s1 (fun z5 s4 => (C_J9_min_7cf53 l3 15 s4 (fun z7 s6 => ((z5 < z7 → (C_J1_indexOfChar_4cfef_0_3v l1 z5 z7 s6 (fun z10 s9 => (Q z10 s9)))) ∧ (¬ (z5 < z7) → (Q (-1) s6)))))))) ∧ (z2 = 0 → (Q (-1) s1)))))
set_option maxRecDepth 16384 in
theorem c_J1_indexOf_4cfef_0_3v (L : Nat) (ys : Nat → Int32) (d : Nat) (s : im_S) (hv : jI s) (l1 : Int) (l1r : iR l1) (l2 : Int) (l2r : iR l2) (l3 : Int) (l3r : iR l3) (Q : Int → im_S → Prop) (hW : C_J1_indexOf_4cfef_0_3v l1 l2 l3 s Q) : pcI L ys 0 d 235 [(4, 3), (0, l1), (0, l2), (0, l3)] s (fun z9 s9 => jI s9 ∧ iR z9 ∧ Q z9 s9) := by
  intro res hres
  refine pq_start (M := rm_p_J1_indexOf_4cfef) (Q := (fun r : im_Re => ∃ z, r.1 = some (0, z) ∧ (jI r.2 ∧ iR z ∧ Q z r.2))) om_J1_indexOf_4cfef (fun d N => ?_) res hres
  refine pq_w [(0, (4, 3)), (1, (0, l1)), (2, (0, l2)), (3, (0, l3))] ⟨rfl, rfl, rfl, rfl, trivial⟩ ?_
  unfold C_J1_indexOf_4cfef_0_3v at hW
  refine pq_l (pc' := 1) rfl rfl rfl rfl rfl ?_
  refine pq_cSI (pc' := 4) rfl rfl rfl rfl rfl (c_J1_canEncode_9a6ad L ys d s hv l1 l1r _ hW) (fun z2 s1 hr => ?_)
  obtain ⟨s1v, z2r, hW⟩ := hr
  refine pq_z_ne (pt := 9) (pc' := 7) rfl rfl rfl (fun c3 => ?_) (fun c3 => ?_)
  · have hW := hW.1 c3
    refine pq_l (pc' := 10) rfl rfl rfl rfl rfl ?_
    refine pq_k (pc' := 11) (v := (0, 0)) rfl rfl rfl (fun _ => rfl) ?_
    refine pq_cSI (pc' := 14) rfl rfl rfl rfl rfl (c_J9_max_7cf53 L ys d s1 s1v l2 l2r 0 (⟨by decide, by decide⟩ : iR 0) _ hW) (fun z5 s4 hr => ?_)
    obtain ⟨s4v, z5r, hW⟩ := hr
    refine pq_s (pc' := 15) rfl rfl rfl rfl rfl ?_
    refine pq_l (pc' := 16) rfl rfl rfl rfl rfl ?_
    refine pq_l (pc' := 17) rfl rfl rfl rfl rfl ?_
    refine pq_x (pc' := 18) (st' := (0, 15) :: _) rfl rfl rfl (fun _ => rfl) ?_
    refine pq_cSI (pc' := 21) rfl rfl rfl rfl rfl (c_J9_min_7cf53 L ys d s4 s4v l3 l3r 15 (⟨by decide, by decide⟩ : iR 15) _ hW) (fun z7 s6 hr => ?_)
    obtain ⟨s6v, z7r, hW⟩ := hr
    refine pq_s (pc' := 22) rfl rfl rfl rfl rfl ?_
    refine pq_l (pc' := 23) rfl rfl rfl rfl rfl ?_
    refine pq_l (pc' := 24) rfl rfl rfl rfl rfl ?_
    refine pq_c_lt (pt := 29) (pc' := 27) rfl rfl rfl (fun c8 => ?_) (fun c8 => ?_)
    · have hW := hW.1 c8
      refine pq_l (pc' := 30) rfl rfl rfl rfl rfl ?_
      refine pq_l (pc' := 31) rfl rfl rfl rfl rfl ?_
      refine pq_l (pc' := 32) rfl rfl rfl rfl rfl ?_
      refine pq_l (pc' := 33) rfl rfl rfl rfl rfl ?_
      refine pq_cSI (pc' := 36) rfl rfl rfl rfl rfl (c_J1_indexOfChar_4cfef_0_3v L ys d s6 s6v l1 l1r z5 z5r z7 z7r _ hW) (fun z10 s9 hr => ?_)
      obtain ⟨s9v, z10r, hW⟩ := hr
      exact pq_iret rfl ⟨_, rfl, s9v, z10r, hW⟩
    · have hW := hW.2 c8
      refine pq_k (pc' := 28) (v := (0, (-1))) rfl rfl rfl (fun _ => rfl) ?_
      exact pq_iret rfl ⟨_, rfl, s6v, (⟨by decide, by decide⟩ : iR (-1)), hW⟩
  · have hW := hW.2 c3
    refine pq_k (pc' := 8) (v := (0, (-1))) rfl rfl rfl (fun _ => rfl) ?_
    exact pq_iret rfl ⟨_, rfl, s1v, (⟨by decide, by decide⟩ : iR (-1)), hW⟩
def C_J0_indexOf_7cf53_0_2v_36 (k0 : Int) (s : im_S) (Q : Int → im_S → Prop) : Prop := (Q k0 s)
def C_J0_indexOf_7cf53_0_2v (l1 : Int) (l2 : Int) (s : im_S) (Q : Int → im_S → Prop) : Prop := (C_J0_isLatin1_aae02_0_2v s (fun z2 s1 => ((z2 = 0 → (C_J0_length_8abf5_0_2v s1 (fun z5 s4 => False))) ∧ (¬ (z2 = 0) → (C_J0_length_8abf5_0_2v s1 (fun z7 s6 => (C_J1_indexOf_4cfef_0_3v l1 l2 z7 s6 (fun z9 s8 => (C_J0_indexOf_7cf53_0_2v_36 z9 s8 Q)))))))))
set_option maxRecDepth 16384 in
theorem c_J0_indexOf_7cf53_0_2v (L : Nat) (ys : Nat → Int32) (d : Nat) (s : im_S) (hv : jI s) (l1 : Int) (l1r : iR l1) (l2 : Int) (l2r : iR l2) (Q : Int → im_S → Prop) (hW : C_J0_indexOf_7cf53_0_2v l1 l2 s Q) : pcI L ys 0 d 229 [(4, 2), (0, l1), (0, l2)] s (fun z9 s9 => jI s9 ∧ iR z9 ∧ Q z9 s9) := by
  intro res hres
  refine pq_start (M := rm_p_J0_indexOf_7cf53) (Q := (fun r : im_Re => ∃ z, r.1 = some (0, z) ∧ (jI r.2 ∧ iR z ∧ Q z r.2))) om_J0_indexOf_7cf53 (fun d N => ?_) res hres
  refine pq_w [(0, (4, 2)), (1, (0, l1)), (2, (0, l2))] ⟨rfl, rfl, rfl, trivial⟩ ?_
  have J36 : ∀ N36 : Nat, N36 ≤ N → ∀ (k0 : Int) (k0r : iR k0) (s : im_S) (hv : jI s), C_J0_indexOf_7cf53_0_2v_36 k0 s Q → pq L ys d N36 rm_p_J0_indexOf_7cf53 (36, [], [(0, k0)], s) (fun r : im_Re => ∃ z, r.1 = some (0, z) ∧ (jI r.2 ∧ iR z ∧ Q z r.2)) := by
    intro N36 hN36 k0 k0r s hv hW
    unfold C_J0_indexOf_7cf53_0_2v_36 at hW
    exact pq_iret rfl ⟨_, rfl, hv, k0r, hW⟩
  unfold C_J0_indexOf_7cf53_0_2v at hW
  refine pq_l (pc' := 1) rfl rfl rfl rfl rfl ?_
  refine pq_cFI (pc' := 4) rfl rfl rfl rfl rfl (c_J0_isLatin1_aae02_0_2v L ys d s hv  _ hW) (fun z2 s1 hr => ?_)
  obtain ⟨s1v, z2r, hW⟩ := hr
  refine pq_z_eq (pt := 23) (pc' := 7) rfl rfl rfl (fun c3 => ?_) (fun c3 => ?_)
  · have hW := hW.1 c3
    refine pq_l (pc' := 24) rfl rfl rfl rfl rfl ?_
    refine pq_x (pc' := 27) (st' := (4, 3) :: _) rfl rfl rfl (fun _ => rfl) ?_
    refine pq_l (pc' := 28) rfl rfl rfl rfl rfl ?_
    refine pq_l (pc' := 29) rfl rfl rfl rfl rfl ?_
    refine pq_l (pc' := 30) rfl rfl rfl rfl rfl ?_
    refine pq_cFI (pc' := 33) rfl rfl rfl rfl rfl (c_J0_length_8abf5_0_2v L ys d s1 s1v  _ hW) (fun z5 s4 hr => ?_)
    obtain ⟨s4v, z5r, hW⟩ := hr
    exact hW.elim
  · have hW := hW.2 c3
    refine pq_l (pc' := 8) rfl rfl rfl rfl rfl ?_
    refine pq_x (pc' := 11) (st' := (4, 3) :: _) rfl rfl rfl (fun _ => rfl) ?_
    refine pq_l (pc' := 12) rfl rfl rfl rfl rfl ?_
    refine pq_l (pc' := 13) rfl rfl rfl rfl rfl ?_
    refine pq_l (pc' := 14) rfl rfl rfl rfl rfl ?_
    refine pq_cFI (pc' := 17) rfl rfl rfl rfl rfl (c_J0_length_8abf5_0_2v L ys d s1 s1v  _ hW) (fun z7 s6 hr => ?_)
    obtain ⟨s6v, z7r, hW⟩ := hr
    refine pq_cSI (pc' := 20) rfl rfl rfl rfl rfl (c_J1_indexOf_4cfef_0_3v L ys d s6 s6v l1 l1r l2 l2r z7 z7r _ hW) (fun z9 s8 hr => ?_)
    obtain ⟨s8v, z9r, hW⟩ := hr
    refine pq_goto (pc' := 36) rfl rfl ?_
    refine pq_w [] trivial ?_
    exact J36 N (by omega) z9 z9r s8 s8v hW
def C_J0_indexOf_0f7a4_0_2v (l1 : Int) (s : im_S) (Q : Int → im_S → Prop) : Prop := (C_J0_indexOf_7cf53_0_2v l1 0 s (fun z2 s1 => (Q z2 s1)))
set_option maxRecDepth 16384 in
theorem c_J0_indexOf_0f7a4_0_2v (L : Nat) (ys : Nat → Int32) (d : Nat) (s : im_S) (hv : jI s) (l1 : Int) (l1r : iR l1) (Q : Int → im_S → Prop) (hW : C_J0_indexOf_0f7a4_0_2v l1 s Q) : pcI L ys 0 d 228 [(4, 2), (0, l1)] s (fun z9 s9 => jI s9 ∧ iR z9 ∧ Q z9 s9) := by
  intro res hres
  refine pq_start (M := rm_p_J0_indexOf_0f7a4) (Q := (fun r : im_Re => ∃ z, r.1 = some (0, z) ∧ (jI r.2 ∧ iR z ∧ Q z r.2))) om_J0_indexOf_0f7a4 (fun d N => ?_) res hres
  refine pq_w [(0, (4, 2)), (1, (0, l1))] ⟨rfl, rfl, trivial⟩ ?_
  unfold C_J0_indexOf_0f7a4_0_2v at hW
  refine pq_l (pc' := 1) rfl rfl rfl rfl rfl ?_
  refine pq_l (pc' := 2) rfl rfl rfl rfl rfl ?_
  refine pq_k (pc' := 3) (v := (0, 0)) rfl rfl rfl (fun _ => rfl) ?_
  refine pq_cFI (pc' := 6) rfl rfl rfl rfl rfl (c_J0_indexOf_7cf53_0_2v L ys d s hv l1 l1r 0 (⟨by decide, by decide⟩ : iR 0) _ hW) (fun z2 s1 hr => ?_)
  obtain ⟨s1v, z2r, hW⟩ := hr
  exact pq_iret rfl ⟨_, rfl, s1v, z2r, hW⟩
def C_look7v_105 (s : im_S) (Q : im_S → Prop) : Prop := (Q s)
def C_look7v_63 (k1 : Int) (s : im_S) (Q : im_S → Prop) : Prop := (∀ s1, s1 = cpf s 2 3 k1 → (((cgf s1 2 3) = 0 → (C_look7v_105 s1 Q)) ∧ (¬ ((cgf s1 2 3) = 0) → (C_isDigit7 (cgf s1 2 3) s1 (fun z6 s5 => ((¬ (z6 = 0) → (C_look7v_105 s5 Q)) ∧ (z6 = 0 → (C_J0_indexOf_0f7a4_0_2v (c16 (cgf s5 2 3)) s5 (fun z10 s9 => ((0 ≤ z10 → (C_look7v_105 s9 Q)) ∧ (¬ (0 ≤ z10) → (C_fail7 1 (cgf s9 2 2) s9 (fun s13 => (C_look7v_105 s13 Q))))))))))))))
def C_look7v_38 (s : im_S) (Q : im_S → Prop) : Prop := (((cgf s 2 1) ≤ (cgf s 2 2) → (C_look7v_63 0 s Q)) ∧ (¬ ((cgf s 2 1) ≤ (cgf s 2 2)) → (C_look7v_63 (cga s 3 (cgf s 2 2)) s Q)))
def C_look7v_0 (K0 : im_S → Prop) (s : im_S) (Q : im_S → Prop) : Prop := (((cgf s 2 1) ≤ (cgf s 2 2) → (C_look7v_38 s Q)) ∧ (¬ ((cgf s 2 1) ≤ (cgf s 2 2)) → ((¬ ((cga s 3 (cgf s 2 2)) = 32) → (C_look7v_38 s Q)) ∧ ((cga s 3 (cgf s 2 2)) = 32 → (∀ s27, s27 = cpf s 2 2 (w32 ((cgf s 2 2) + 1)) → (K0 (s27)))))))
def C_look7v (s : im_S) (Q : im_S → Prop) : Prop := (ploop (fun (K : im_S → Prop) (a : im_S) => C_look7v_0 K a Q) (s))
set_option maxRecDepth 16384 in
theorem c_look7v (L : Nat) (ys : Nat → Int32) (d : Nat) (s : im_S) (hv : jI s) (Q : im_S → Prop) (hW : C_look7v s Q) : pcV L ys d 187 [(2, ((2 : Nat) : Int))] s (fun s9 => jI s9 ∧ Q s9) := by
  intro res hres
  refine pq_start (M := rm_p_X7_look) (Q := (fun r : im_Re => r.1 = none ∧ (jI r.2 ∧ Q r.2))) om_X7_look (fun d N => ?_) res hres
  refine pq_w [(0, (2, ((2 : Nat) : Int)))] ⟨rfl, trivial⟩ ?_
  have J105 : ∀ N105 : Nat, N105 ≤ N → ∀ (s : im_S) (hv : jI s), C_look7v_105 s Q → pq L ys d N105 rm_p_X7_look (105, [], [], s) (fun r : im_Re => r.1 = none ∧ (jI r.2 ∧ Q r.2)) := by
    intro N105 hN105 s hv hW
    unfold C_look7v_105 at hW
    exact pq_vret rfl ⟨rfl, hv, hW⟩
  have J63 : ∀ N63 : Nat, N63 ≤ N → ∀ (k1 : Int) (k1r : iR k1) (s : im_S) (hv : jI s), C_look7v_63 k1 s Q → pq L ys d N63 rm_p_X7_look (63, [(0, (2, ((2 : Nat) : Int)))], [(0, k1), (2, ((2 : Nat) : Int))], s) (fun r : im_Re => r.1 = none ∧ (jI r.2 ∧ Q r.2)) := by
    intro N63 hN63 k1 k1r s hv hW
    unfold C_look7v_63 at hW
    refine pq_pX (pc' := 66) rfl rfl rfl rfl (fun e => absurd e (by decide)) (fun e => absurd e (by decide)) hv (fun s1 s1e s1v => ?_)
    have hW := hW s1 s1e
    refine pq_l (pc' := 67) rfl rfl rfl rfl rfl ?_
    refine pq_gi (pc' := 70) rfl rfl rfl rfl rfl (fun r2 => ?_)
    refine pq_z_eq (pt := 105) (pc' := 73) rfl rfl rfl (fun c3 => ?_) (fun c3 => ?_)
    · have hW := hW.1 c3
      refine pq_w [] trivial ?_
      exact J105 N63 (by omega) s1 s1v hW
    · have hW := hW.2 c3
      refine pq_l (pc' := 74) rfl rfl rfl rfl rfl ?_
      refine pq_gi (pc' := 77) rfl rfl rfl rfl rfl (fun r4 => ?_)
      refine pq_cSI (pc' := 80) rfl rfl rfl rfl rfl (c_isDigit7 L ys d s1 s1v (cgf s1 2 3) r4 _ hW) (fun z6 s5 hr => ?_)
      obtain ⟨s5v, z6r, hW⟩ := hr
      refine pq_z_ne (pt := 105) (pc' := 83) rfl rfl rfl (fun c7 => ?_) (fun c7 => ?_)
      · have hW := hW.1 c7
        refine pq_w [] trivial ?_
        exact J105 N63 (by omega) s5 s5v hW
      · have hW := hW.2 c7
        refine pq_k (pc' := 85) (v := (4, 2)) rfl rfl rfl (fun _ => rfl) ?_
        refine pq_l (pc' := 86) rfl rfl rfl rfl rfl ?_
        refine pq_gi (pc' := 89) rfl rfl rfl rfl rfl (fun r8 => ?_)
        refine pq_i2c (pc' := 90) rfl rfl ?_
        refine pq_cFI (pc' := 93) rfl rfl rfl rfl rfl (c_J0_indexOf_0f7a4_0_2v L ys d s5 s5v (c16 (cgf s5 2 3)) (c16_r _) _ hW) (fun z10 s9 hr => ?_)
        obtain ⟨s9v, z10r, hW⟩ := hr
        refine pq_z_ge (pt := 105) (pc' := 96) rfl rfl rfl (fun c11 => ?_) (fun c11 => ?_)
        · have hW := hW.1 c11
          refine pq_w [] trivial ?_
          exact J105 N63 (by omega) s9 s9v hW
        · have hW := hW.2 c11
          refine pq_l (pc' := 97) rfl rfl rfl rfl rfl ?_
          refine pq_k (pc' := 98) (v := (0, 1)) rfl rfl rfl (fun _ => rfl) ?_
          refine pq_l (pc' := 99) rfl rfl rfl rfl rfl ?_
          refine pq_gi (pc' := 102) rfl rfl rfl rfl rfl (fun r12 => ?_)
          refine pq_cVV (pc' := 105) rfl rfl rfl rfl rfl (c_fail7 L ys d s9 s9v 1 (⟨by decide, by decide⟩ : iR 1) (cgf s9 2 2) r12 _ hW) (fun s13 hr => ?_)
          obtain ⟨s13v, hW⟩ := hr
          refine pq_w [] trivial ?_
          exact J105 N63 (by omega) s13 s13v hW
  have J38 : ∀ N38 : Nat, N38 ≤ N → ∀ (s : im_S) (hv : jI s), C_look7v_38 s Q → pq L ys d N38 rm_p_X7_look (38, [(0, (2, ((2 : Nat) : Int)))], [], s) (fun r : im_Re => r.1 = none ∧ (jI r.2 ∧ Q r.2)) := by
    intro N38 hN38 s hv hW
    unfold C_look7v_38 at hW
    refine pq_l (pc' := 39) rfl rfl rfl rfl rfl ?_
    refine pq_l (pc' := 40) rfl rfl rfl rfl rfl ?_
    refine pq_gi (pc' := 43) rfl rfl rfl rfl rfl (fun r15 => ?_)
    refine pq_l (pc' := 44) rfl rfl rfl rfl rfl ?_
    refine pq_gi (pc' := 47) rfl rfl rfl rfl rfl (fun r16 => ?_)
    refine pq_c_ge (pt := 62) (pc' := 50) rfl rfl rfl (fun c17 => ?_) (fun c17 => ?_)
    · have hW := hW.1 c17
      refine pq_k (pc' := 63) (v := (0, 0)) rfl rfl rfl (fun _ => rfl) ?_
      refine pq_w [(0, (2, ((2 : Nat) : Int)))] ⟨rfl, trivial⟩ ?_
      exact J63 N38 (by omega) 0 (⟨by decide, by decide⟩ : iR 0) s hv hW
    · have hW := hW.2 c17
      refine pq_l (pc' := 51) rfl rfl rfl rfl rfl ?_
      refine pq_gr (pc' := 54) (c := 3) (v := 3) rfl rfl rfl rfl rfl rfl hv ?_
      refine pq_l (pc' := 55) rfl rfl rfl rfl rfl ?_
      refine pq_gi (pc' := 58) rfl rfl rfl rfl rfl (fun r18 => ?_)
      refine pq_ca (pc' := 59) rfl rfl (fun r19a r19 => ?_)
      refine pq_goto (pc' := 63) rfl rfl ?_
      refine pq_w [(0, (2, ((2 : Nat) : Int)))] ⟨rfl, trivial⟩ ?_
      exact J63 N38 (by omega) (cga s 3 (cgf s 2 2)) r19 s hv hW
  have J0 : ∀ (I0 : im_S → Prop) (hB0 : ∀ a : im_S, I0 a → C_look7v_0 I0 a Q), ∀ N0 : Nat, N0 ≤ N → ∀ (s : im_S) (hv : jI s), I0 (s) → pq L ys d N0 rm_p_X7_look (0, [(0, (2, ((2 : Nat) : Int)))], [], s) (fun r : im_Re => r.1 = none ∧ (jI r.2 ∧ Q r.2)) := by
    intro I0 hB0 N0
    induction N0 using Nat.strongRecOn with
    | _ N0 ih0 =>
      intro hN0 s hv hI
      have hW : C_look7v_0 I0 s Q := hB0 (s) hI
      unfold C_look7v_0 at hW
      refine pq_l (pc' := 1) rfl rfl rfl rfl rfl ?_
      refine pq_gi (pc' := 4) rfl rfl rfl rfl rfl (fun r20 => ?_)
      refine pq_l (pc' := 5) rfl rfl rfl rfl rfl ?_
      refine pq_gi (pc' := 8) rfl rfl rfl rfl rfl (fun r21 => ?_)
      refine pq_c_ge (pt := 38) (pc' := 11) rfl rfl rfl (fun c22 => ?_) (fun c22 => ?_)
      · have hW := hW.1 c22
        refine pq_w [(0, (2, ((2 : Nat) : Int)))] ⟨rfl, trivial⟩ ?_
        exact J38 N0 (by omega) s hv hW
      · have hW := hW.2 c22
        refine pq_l (pc' := 12) rfl rfl rfl rfl rfl ?_
        refine pq_gr (pc' := 15) (c := 3) (v := 3) rfl rfl rfl rfl rfl rfl hv ?_
        refine pq_l (pc' := 16) rfl rfl rfl rfl rfl ?_
        refine pq_gi (pc' := 19) rfl rfl rfl rfl rfl (fun r23 => ?_)
        refine pq_ca (pc' := 20) rfl rfl (fun r24a r24 => ?_)
        refine pq_k (pc' := 22) (v := (0, 32)) rfl rfl rfl (fun _ => rfl) ?_
        refine pq_c_ne (pt := 38) (pc' := 25) rfl rfl rfl (fun c25 => ?_) (fun c25 => ?_)
        · have hW := hW.1 c25
          refine pq_w [(0, (2, ((2 : Nat) : Int)))] ⟨rfl, trivial⟩ ?_
          exact J38 N0 (by omega) s hv hW
        · have hW := hW.2 c25
          refine pq_l (pc' := 26) rfl rfl rfl rfl rfl ?_
          refine pq_x (pc' := 27) rfl rfl rfl (fun _ => rfl) ?_
          refine pq_gi (pc' := 30) rfl rfl rfl rfl rfl (fun r26 => ?_)
          refine pq_k (pc' := 31) (v := (0, 1)) rfl rfl rfl (fun _ => rfl) ?_
          refine pq_add (pc' := 32) rfl rfl ?_
          refine pq_pX (pc' := 35) rfl rfl rfl rfl (fun e => absurd e (by decide)) (fun e => absurd e (by decide)) hv (fun s27 s27e s27v => ?_)
          have hW := hW s27 s27e
          refine pq_gotoT (pc' := 0) rfl rfl (fun m28 m28l => ?_)
          refine pq_w [(0, (2, ((2 : Nat) : Int)))] ⟨rfl, trivial⟩ ?_
          exact ih0 m28 (by omega) (by omega) s27 s27v hW
  unfold C_look7v at hW
  refine pq_w [(0, (2, ((2 : Nat) : Int)))] ⟨rfl, trivial⟩ ?_
  obtain ⟨I9, hI9, hB9⟩ := hW
  exact J0 I9 hB9 N (by omega) s hv hI9
def C_step7v_21 (s : im_S) (Q : im_S → Prop) : Prop := (Q s)
def C_step7v (s : im_S) (Q : im_S → Prop) : Prop := ((¬ ((cgf s 2 4) = 0) → (C_step7v_21 s Q)) ∧ ((cgf s 2 4) = 0 → (∀ s4, s4 = cpf s 2 2 (w32 ((cgf s 2 2) + 1)) → (C_look7v s4 (fun s5 => (C_step7v_21 s5 Q))))))
set_option maxRecDepth 16384 in
theorem c_step7v (L : Nat) (ys : Nat → Int32) (d : Nat) (s : im_S) (hv : jI s) (Q : im_S → Prop) (hW : C_step7v s Q) : pcV L ys d 202 [(2, ((2 : Nat) : Int))] s (fun s9 => jI s9 ∧ Q s9) := by
  intro res hres
  refine pq_start (M := rm_p_X7_step) (Q := (fun r : im_Re => r.1 = none ∧ (jI r.2 ∧ Q r.2))) om_X7_step (fun d N => ?_) res hres
  refine pq_w [(0, (2, ((2 : Nat) : Int)))] ⟨rfl, trivial⟩ ?_
  have J21 : ∀ N21 : Nat, N21 ≤ N → ∀ (s : im_S) (hv : jI s), C_step7v_21 s Q → pq L ys d N21 rm_p_X7_step (21, [], [], s) (fun r : im_Re => r.1 = none ∧ (jI r.2 ∧ Q r.2)) := by
    intro N21 hN21 s hv hW
    unfold C_step7v_21 at hW
    exact pq_vret rfl ⟨rfl, hv, hW⟩
  unfold C_step7v at hW
  refine pq_l (pc' := 1) rfl rfl rfl rfl rfl ?_
  refine pq_gi (pc' := 4) rfl rfl rfl rfl rfl (fun r1 => ?_)
  refine pq_z_ne (pt := 21) (pc' := 7) rfl rfl rfl (fun c2 => ?_) (fun c2 => ?_)
  · have hW := hW.1 c2
    refine pq_w [] trivial ?_
    exact J21 N (by omega) s hv hW
  · have hW := hW.2 c2
    refine pq_l (pc' := 8) rfl rfl rfl rfl rfl ?_
    refine pq_x (pc' := 9) rfl rfl rfl (fun _ => rfl) ?_
    refine pq_gi (pc' := 12) rfl rfl rfl rfl rfl (fun r3 => ?_)
    refine pq_k (pc' := 13) (v := (0, 1)) rfl rfl rfl (fun _ => rfl) ?_
    refine pq_add (pc' := 14) rfl rfl ?_
    refine pq_pX (pc' := 17) rfl rfl rfl rfl (fun e => absurd e (by decide)) (fun e => absurd e (by decide)) hv (fun s4 s4e s4v => ?_)
    have hW := hW s4 s4e
    refine pq_l (pc' := 18) rfl rfl rfl rfl rfl ?_
    refine pq_cVV (pc' := 21) rfl rfl rfl rfl rfl (c_look7v L ys d s4 s4v  _ hW) (fun s5 hr => ?_)
    obtain ⟨s5v, hW⟩ := hr
    refine pq_w [] trivial ?_
    exact J21 N (by omega) s5 s5v hW
def C_expect7v_24 (s : im_S) (Q : im_S → Prop) : Prop := (Q s)
def C_expect7v (l1 : Int) (s : im_S) (Q : im_S → Prop) : Prop := ((¬ ((cgf s 2 3) = l1) → (C_fail7 2 (cgf s 2 2) s (fun s4 => (C_expect7v_24 s4 Q)))) ∧ ((cgf s 2 3) = l1 → (C_step7v s (fun s6 => (C_expect7v_24 s6 Q)))))
set_option maxRecDepth 16384 in
theorem c_expect7v (L : Nat) (ys : Nat → Int32) (d : Nat) (s : im_S) (hv : jI s) (l1 : Int) (l1r : iR l1) (Q : im_S → Prop) (hW : C_expect7v l1 s Q) : pcV L ys d 182 [(2, ((2 : Nat) : Int)), (0, l1)] s (fun s9 => jI s9 ∧ Q s9) := by
  intro res hres
  refine pq_start (M := rm_p_X7_expect) (Q := (fun r : im_Re => r.1 = none ∧ (jI r.2 ∧ Q r.2))) om_X7_expect (fun d N => ?_) res hres
  refine pq_w [(0, (2, ((2 : Nat) : Int))), (1, (0, l1))] ⟨rfl, rfl, trivial⟩ ?_
  have J24 : ∀ N24 : Nat, N24 ≤ N → ∀ (s : im_S) (hv : jI s), C_expect7v_24 s Q → pq L ys d N24 rm_p_X7_expect (24, [], [], s) (fun r : im_Re => r.1 = none ∧ (jI r.2 ∧ Q r.2)) := by
    intro N24 hN24 s hv hW
    unfold C_expect7v_24 at hW
    exact pq_vret rfl ⟨rfl, hv, hW⟩
  unfold C_expect7v at hW
  refine pq_l (pc' := 1) rfl rfl rfl rfl rfl ?_
  refine pq_gi (pc' := 4) rfl rfl rfl rfl rfl (fun r1 => ?_)
  refine pq_l (pc' := 5) rfl rfl rfl rfl rfl ?_
  refine pq_c_ne (pt := 15) (pc' := 8) rfl rfl rfl (fun c2 => ?_) (fun c2 => ?_)
  · have hW := hW.1 c2
    refine pq_l (pc' := 16) rfl rfl rfl rfl rfl ?_
    refine pq_k (pc' := 17) (v := (0, 2)) rfl rfl rfl (fun _ => rfl) ?_
    refine pq_l (pc' := 18) rfl rfl rfl rfl rfl ?_
    refine pq_gi (pc' := 21) rfl rfl rfl rfl rfl (fun r3 => ?_)
    refine pq_cVV (pc' := 24) rfl rfl rfl rfl rfl (c_fail7 L ys d s hv 2 (⟨by decide, by decide⟩ : iR 2) (cgf s 2 2) r3 _ hW) (fun s4 hr => ?_)
    obtain ⟨s4v, hW⟩ := hr
    refine pq_w [] trivial ?_
    exact J24 N (by omega) s4 s4v hW
  · have hW := hW.2 c2
    refine pq_l (pc' := 9) rfl rfl rfl rfl rfl ?_
    refine pq_cVV (pc' := 12) rfl rfl rfl rfl rfl (c_step7v L ys d s hv  _ hW) (fun s6 hr => ?_)
    obtain ⟨s6v, hW⟩ := hr
    refine pq_goto (pc' := 24) rfl rfl ?_
    refine pq_w [] trivial ?_
    exact J24 N (by omega) s6 s6v hW
def C_readNumber7v_134 (l1 : Int) (s : im_S) (Q : Int → im_S → Prop) : Prop := (Q l1 s)
def C_readNumber7v_130 (l1 : Int) (s : im_S) (Q : Int → im_S → Prop) : Prop := (C_look7v s (fun s1 => (C_readNumber7v_134 l1 s1 Q)))
def C_readNumber7v_92 (l1 : Int) (s : im_S) (Q : Int → im_S → Prop) : Prop := (((cgf s 2 1) ≤ (cgf s 2 2) → (C_readNumber7v_130 l1 s Q)) ∧ (¬ ((cgf s 2 1) ≤ (cgf s 2 2)) → (C_isDigit7 (cga s 3 (cgf s 2 2)) s (fun z9 s8 => ((z9 = 0 → (C_readNumber7v_130 l1 s8 Q)) ∧ (¬ (z9 = 0) → (C_fail7 1 (cgf s8 2 2) s8 (fun s12 => (C_readNumber7v_134 l1 s12 Q)))))))))
def C_readNumber7v_38 (K38 : Int × im_S → Prop) (l2 : Int) (l1 : Int) (s : im_S) (Q : Int → im_S → Prop) : Prop := ((l2 ≤ (cgf s 2 2) → (C_readNumber7v_92 l1 s Q)) ∧ (¬ (l2 ≤ (cgf s 2 2)) → (C_isDigit7 (cga s 3 (cgf s 2 2)) s (fun z19 s18 => ((z19 = 0 → (C_readNumber7v_92 l1 s18 Q)) ∧ (¬ (z19 = 0) → (∀ s24, s24 = cpf s18 2 2 (w32 ((cgf s18 2 2) + 1)) → (K38 ((w32 ((w32 (l1 * 10)) + (w32 ((cga s18 3 (cgf s18 2 2)) - 48)))), s24)))))))))
def C_readNumber7v (s : im_S) (Q : Int → im_S → Prop) : Prop := (C_isDigit7 (cgf s 2 3) s (fun z28 s27 => ((¬ (z28 = 0) → (C_J9_min_7cf53 (cgf s27 2 1) (w32 ((cgf s27 2 2) + 6)) s27 (fun z33 s32 => (ploop (fun (K : Int × im_S → Prop) (a : Int × im_S) => C_readNumber7v_38 K z33 a.1 a.2 Q) (0, s32))))) ∧ (z28 = 0 → (C_fail7 2 (cgf s27 2 2) s27 (fun s35 => (Q 0 s35)))))))
set_option maxRecDepth 16384 in
theorem c_readNumber7v (L : Nat) (ys : Nat → Int32) (d : Nat) (s : im_S) (hv : jI s) (Q : Int → im_S → Prop) (hW : C_readNumber7v s Q) : pcI L ys 0 d 195 [(2, ((2 : Nat) : Int))] s (fun z9 s9 => jI s9 ∧ iR z9 ∧ Q z9 s9) := by
  intro res hres
  refine pq_start (M := rm_p_X7_readNumber) (Q := (fun r : im_Re => ∃ z, r.1 = some (0, z) ∧ (jI r.2 ∧ iR z ∧ Q z r.2))) om_X7_readNumber (fun d N => ?_) res hres
  refine pq_w [(0, (2, ((2 : Nat) : Int)))] ⟨rfl, trivial⟩ ?_
  have J134 : ∀ N134 : Nat, N134 ≤ N → ∀ (l1 : Int) (l1r : iR l1) (s : im_S) (hv : jI s), C_readNumber7v_134 l1 s Q → pq L ys d N134 rm_p_X7_readNumber (134, [(1, (0, l1))], [], s) (fun r : im_Re => ∃ z, r.1 = some (0, z) ∧ (jI r.2 ∧ iR z ∧ Q z r.2)) := by
    intro N134 hN134 l1 l1r s hv hW
    unfold C_readNumber7v_134 at hW
    refine pq_l (pc' := 135) rfl rfl rfl rfl rfl ?_
    exact pq_iret rfl ⟨_, rfl, hv, l1r, hW⟩
  have J130 : ∀ N130 : Nat, N130 ≤ N → ∀ (l1 : Int) (l1r : iR l1) (s : im_S) (hv : jI s), C_readNumber7v_130 l1 s Q → pq L ys d N130 rm_p_X7_readNumber (130, [(0, (2, ((2 : Nat) : Int))), (1, (0, l1))], [], s) (fun r : im_Re => ∃ z, r.1 = some (0, z) ∧ (jI r.2 ∧ iR z ∧ Q z r.2)) := by
    intro N130 hN130 l1 l1r s hv hW
    unfold C_readNumber7v_130 at hW
    refine pq_l (pc' := 131) rfl rfl rfl rfl rfl ?_
    refine pq_cVV (pc' := 134) rfl rfl rfl rfl rfl (c_look7v L ys d s hv  _ hW) (fun s1 hr => ?_)
    obtain ⟨s1v, hW⟩ := hr
    refine pq_w [(1, (0, l1))] ⟨rfl, trivial⟩ ?_
    exact J134 N130 (by omega) l1 l1r s1 s1v hW
  have J92 : ∀ N92 : Nat, N92 ≤ N → ∀ (l1 : Int) (l1r : iR l1) (s : im_S) (hv : jI s), C_readNumber7v_92 l1 s Q → pq L ys d N92 rm_p_X7_readNumber (92, [(0, (2, ((2 : Nat) : Int))), (1, (0, l1))], [], s) (fun r : im_Re => ∃ z, r.1 = some (0, z) ∧ (jI r.2 ∧ iR z ∧ Q z r.2)) := by
    intro N92 hN92 l1 l1r s hv hW
    unfold C_readNumber7v_92 at hW
    refine pq_l (pc' := 93) rfl rfl rfl rfl rfl ?_
    refine pq_gi (pc' := 96) rfl rfl rfl rfl rfl (fun r3 => ?_)
    refine pq_l (pc' := 97) rfl rfl rfl rfl rfl ?_
    refine pq_gi (pc' := 100) rfl rfl rfl rfl rfl (fun r4 => ?_)
    refine pq_c_ge (pt := 130) (pc' := 103) rfl rfl rfl (fun c5 => ?_) (fun c5 => ?_)
    · have hW := hW.1 c5
      refine pq_w [(0, (2, ((2 : Nat) : Int))), (1, (0, l1))] ⟨rfl, rfl, trivial⟩ ?_
      exact J130 N92 (by omega) l1 l1r s hv hW
    · have hW := hW.2 c5
      refine pq_l (pc' := 104) rfl rfl rfl rfl rfl ?_
      refine pq_gr (pc' := 107) (c := 3) (v := 3) rfl rfl rfl rfl rfl rfl hv ?_
      refine pq_l (pc' := 108) rfl rfl rfl rfl rfl ?_
      refine pq_gi (pc' := 111) rfl rfl rfl rfl rfl (fun r6 => ?_)
      refine pq_ca (pc' := 112) rfl rfl (fun r7a r7 => ?_)
      refine pq_cSI (pc' := 115) rfl rfl rfl rfl rfl (c_isDigit7 L ys d s hv (cga s 3 (cgf s 2 2)) r7 _ hW) (fun z9 s8 hr => ?_)
      obtain ⟨s8v, z9r, hW⟩ := hr
      refine pq_z_eq (pt := 130) (pc' := 118) rfl rfl rfl (fun c10 => ?_) (fun c10 => ?_)
      · have hW := hW.1 c10
        refine pq_w [(0, (2, ((2 : Nat) : Int))), (1, (0, l1))] ⟨rfl, rfl, trivial⟩ ?_
        exact J130 N92 (by omega) l1 l1r s8 s8v hW
      · have hW := hW.2 c10
        refine pq_l (pc' := 119) rfl rfl rfl rfl rfl ?_
        refine pq_k (pc' := 120) (v := (0, 1)) rfl rfl rfl (fun _ => rfl) ?_
        refine pq_l (pc' := 121) rfl rfl rfl rfl rfl ?_
        refine pq_gi (pc' := 124) rfl rfl rfl rfl rfl (fun r11 => ?_)
        refine pq_cVV (pc' := 127) rfl rfl rfl rfl rfl (c_fail7 L ys d s8 s8v 1 (⟨by decide, by decide⟩ : iR 1) (cgf s8 2 2) r11 _ hW) (fun s12 hr => ?_)
        obtain ⟨s12v, hW⟩ := hr
        refine pq_goto (pc' := 134) rfl rfl ?_
        refine pq_w [(1, (0, l1))] ⟨rfl, trivial⟩ ?_
        exact J134 N92 (by omega) l1 l1r s12 s12v hW
  have J38 : ∀ (l2 : Int) (l2r : iR l2) (I38 : Int × im_S → Prop) (hB38 : ∀ a : Int × im_S, I38 a → C_readNumber7v_38 I38 l2 a.1 a.2 Q), ∀ N38 : Nat, N38 ≤ N → ∀ (l1 : Int) (l1r : iR l1) (s : im_S) (hv : jI s), I38 (l1, s) → pq L ys d N38 rm_p_X7_readNumber (38, [(0, (2, ((2 : Nat) : Int))), (1, (0, l1)), (2, (0, l2))], [], s) (fun r : im_Re => ∃ z, r.1 = some (0, z) ∧ (jI r.2 ∧ iR z ∧ Q z r.2)) := by
    intro l2 l2r I38 hB38 N38
    induction N38 using Nat.strongRecOn with
    | _ N38 ih38 =>
      intro hN38 l1 l1r s hv hI
      have hW : C_readNumber7v_38 I38 l2 l1 s Q := hB38 (l1, s) hI
      unfold C_readNumber7v_38 at hW
      refine pq_l (pc' := 39) rfl rfl rfl rfl rfl ?_
      refine pq_gi (pc' := 42) rfl rfl rfl rfl rfl (fun r14 => ?_)
      refine pq_l (pc' := 43) rfl rfl rfl rfl rfl ?_
      refine pq_c_ge (pt := 92) (pc' := 46) rfl rfl rfl (fun c15 => ?_) (fun c15 => ?_)
      · have hW := hW.1 c15
        refine pq_w [(0, (2, ((2 : Nat) : Int))), (1, (0, l1))] ⟨rfl, rfl, trivial⟩ ?_
        exact J92 N38 (by omega) l1 l1r s hv hW
      · have hW := hW.2 c15
        refine pq_l (pc' := 47) rfl rfl rfl rfl rfl ?_
        refine pq_gr (pc' := 50) (c := 3) (v := 3) rfl rfl rfl rfl rfl rfl hv ?_
        refine pq_l (pc' := 51) rfl rfl rfl rfl rfl ?_
        refine pq_gi (pc' := 54) rfl rfl rfl rfl rfl (fun r16 => ?_)
        refine pq_ca (pc' := 55) rfl rfl (fun r17a r17 => ?_)
        refine pq_cSI (pc' := 58) rfl rfl rfl rfl rfl (c_isDigit7 L ys d s hv (cga s 3 (cgf s 2 2)) r17 _ hW) (fun z19 s18 hr => ?_)
        obtain ⟨s18v, z19r, hW⟩ := hr
        refine pq_z_eq (pt := 92) (pc' := 61) rfl rfl rfl (fun c20 => ?_) (fun c20 => ?_)
        · have hW := hW.1 c20
          refine pq_w [(0, (2, ((2 : Nat) : Int))), (1, (0, l1))] ⟨rfl, rfl, trivial⟩ ?_
          exact J92 N38 (by omega) l1 l1r s18 s18v hW
        · have hW := hW.2 c20
          refine pq_l (pc' := 62) rfl rfl rfl rfl rfl ?_
          refine pq_k (pc' := 64) (v := (0, 10)) rfl rfl rfl (fun _ => rfl) ?_
          refine pq_mul (pc' := 65) rfl rfl ?_
          refine pq_l (pc' := 66) rfl rfl rfl rfl rfl ?_
          refine pq_gr (pc' := 69) (c := 3) (v := 3) rfl rfl rfl rfl rfl rfl s18v ?_
          refine pq_l (pc' := 70) rfl rfl rfl rfl rfl ?_
          refine pq_gi (pc' := 73) rfl rfl rfl rfl rfl (fun r21 => ?_)
          refine pq_ca (pc' := 74) rfl rfl (fun r22a r22 => ?_)
          refine pq_k (pc' := 76) (v := (0, 48)) rfl rfl rfl (fun _ => rfl) ?_
          refine pq_sub (pc' := 77) rfl rfl ?_
          refine pq_add (pc' := 78) rfl rfl ?_
          refine pq_s (pc' := 79) rfl rfl rfl rfl rfl ?_
          refine pq_l (pc' := 80) rfl rfl rfl rfl rfl ?_
          refine pq_x (pc' := 81) rfl rfl rfl (fun _ => rfl) ?_
          refine pq_gi (pc' := 84) rfl rfl rfl rfl rfl (fun r23 => ?_)
          refine pq_k (pc' := 85) (v := (0, 1)) rfl rfl rfl (fun _ => rfl) ?_
          refine pq_add (pc' := 86) rfl rfl ?_
          refine pq_pX (pc' := 89) rfl rfl rfl rfl (fun e => absurd e (by decide)) (fun e => absurd e (by decide)) s18v (fun s24 s24e s24v => ?_)
          have hW := hW s24 s24e
          refine pq_gotoT (pc' := 38) rfl rfl (fun m25 m25l => ?_)
          refine pq_w [(0, (2, ((2 : Nat) : Int))), (1, (0, (w32 ((w32 (l1 * 10)) + (w32 ((cga s18 3 (cgf s18 2 2)) - 48)))))), (2, (0, l2))] ⟨rfl, rfl, rfl, trivial⟩ ?_
          exact ih38 m25 (by omega) (by omega) (w32 ((w32 (l1 * 10)) + (w32 ((cga s18 3 (cgf s18 2 2)) - 48)))) (w32_r _) s24 s24v hW
  unfold C_readNumber7v at hW
  refine pq_l (pc' := 1) rfl rfl rfl rfl rfl ?_
  refine pq_gi (pc' := 4) rfl rfl rfl rfl rfl (fun r26 => ?_)
  refine pq_cSI (pc' := 7) rfl rfl rfl rfl rfl (c_isDigit7 L ys d s hv (cgf s 2 3) r26 _ hW) (fun z28 s27 hr => ?_)
  obtain ⟨s27v, z28r, hW⟩ := hr
  refine pq_z_ne (pt := 21) (pc' := 10) rfl rfl rfl (fun c29 => ?_) (fun c29 => ?_)
  · have hW := hW.1 c29
    refine pq_k (pc' := 22) (v := (0, 0)) rfl rfl rfl (fun _ => rfl) ?_
    refine pq_s (pc' := 23) rfl rfl rfl rfl rfl ?_
    refine pq_l (pc' := 24) rfl rfl rfl rfl rfl ?_
    refine pq_gi (pc' := 27) rfl rfl rfl rfl rfl (fun r30 => ?_)
    refine pq_l (pc' := 28) rfl rfl rfl rfl rfl ?_
    refine pq_gi (pc' := 31) rfl rfl rfl rfl rfl (fun r31 => ?_)
    refine pq_k (pc' := 33) (v := (0, 6)) rfl rfl rfl (fun _ => rfl) ?_
    refine pq_add (pc' := 34) rfl rfl ?_
    refine pq_cSI (pc' := 37) rfl rfl rfl rfl rfl (c_J9_min_7cf53 L ys d s27 s27v (cgf s27 2 1) r30 (w32 ((cgf s27 2 2) + 6)) (w32_r _) _ hW) (fun z33 s32 hr => ?_)
    obtain ⟨s32v, z33r, hW⟩ := hr
    refine pq_s (pc' := 38) rfl rfl rfl rfl rfl ?_
    refine pq_w [(0, (2, ((2 : Nat) : Int))), (1, (0, 0)), (2, (0, z33))] ⟨rfl, rfl, rfl, trivial⟩ ?_
    obtain ⟨I9, hI9, hB9⟩ := hW
    exact J38 z33 z33r I9 hB9 N (by omega) 0 (⟨by decide, by decide⟩ : iR 0) s32 s32v hI9
  · have hW := hW.2 c29
    refine pq_l (pc' := 11) rfl rfl rfl rfl rfl ?_
    refine pq_k (pc' := 12) (v := (0, 2)) rfl rfl rfl (fun _ => rfl) ?_
    refine pq_l (pc' := 13) rfl rfl rfl rfl rfl ?_
    refine pq_gi (pc' := 16) rfl rfl rfl rfl rfl (fun r34 => ?_)
    refine pq_cVV (pc' := 19) rfl rfl rfl rfl rfl (c_fail7 L ys d s27 s27v 2 (⟨by decide, by decide⟩ : iR 2) (cgf s27 2 2) r34 _ hW) (fun s35 hr => ?_)
    obtain ⟨s35v, hW⟩ := hr
    refine pq_k (pc' := 20) (v := (0, 0)) rfl rfl rfl (fun _ => rfl) ?_
    exact pq_iret rfl ⟨_, rfl, s35v, (⟨by decide, by decide⟩ : iR 0), hW⟩
