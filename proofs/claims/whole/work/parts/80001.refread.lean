/-! THE REFERENCE'S READER, lifted by program -/
def C_isSign10 (l0 : Int) (s : im_S) (Q : Int → im_S → Prop) : Prop := (∀ v201 : Int, v201 = (if l0 < 32 then 0 else (if 126 < l0 then 0 else 1)) → (Q v201 s))
set_option maxRecDepth 16384 in
theorem c_isSign10 (L : Nat) (ys : Nat → Int32) (d : Nat) (s : im_S) (hv : jR s) (l0 : Int) (l0r : iR l0) (Q : Int → im_S → Prop) (hW : C_isSign10 l0 s Q) : pcI L ys 0 d 56 [(0, l0)] s (fun z9 s9 => jR s9 ∧ iR z9 ∧ Q z9 s9) := by
  intro res hres
  refine pq_start (M := rm_p_X10_isSign) (Q := (fun r : im_Re => ∃ z, r.1 = some (0, z) ∧ (jR r.2 ∧ iR z ∧ Q z r.2))) om_X10_isSign (fun d N => ?_) res hres
  refine pq_w [(0, (0, l0))] ⟨rfl, trivial⟩ ?_
  unfold C_isSign10 at hW
  refine pq_l (pc' := 1) rfl rfl rfl rfl rfl ?_
  refine pq_k (pc' := 3) (v := (0, 32)) rfl rfl rfl (fun _ => rfl) ?_
  have J202 : ∀ v201 : Int, iR v201 → ((Q v201 s)) → pq L ys d N rm_p_X10_isSign (17, [], [(0, v201)], s) (fun r : im_Re => ∃ z, r.1 = some (0, z) ∧ (jR r.2 ∧ iR z ∧ Q z r.2)) := by
    intro v201 v201r hW
    exact pq_iret rfl ⟨_, rfl, hv, v201r, hW⟩
  refine pq_c_lt (pt := 16) (pc' := 6) rfl rfl rfl (fun c1 => ?_) (fun c1 => ?_)
  · refine pq_k (pc' := 17) (v := (0, 0)) rfl rfl rfl (fun _ => rfl) ?_
    refine pq_w [] trivial ?_
    exact J202 0 (⟨by decide, by decide⟩ : iR 0) (hW _ (by rw [if_pos c1]))
  · refine pq_l (pc' := 7) rfl rfl rfl rfl rfl ?_
    refine pq_k (pc' := 9) (v := (0, 126)) rfl rfl rfl (fun _ => rfl) ?_
    refine pq_c_gt (pt := 16) (pc' := 12) rfl rfl rfl (fun c2 => ?_) (fun c2 => ?_)
    · refine pq_k (pc' := 17) (v := (0, 0)) rfl rfl rfl (fun _ => rfl) ?_
      refine pq_w [] trivial ?_
      exact J202 0 (⟨by decide, by decide⟩ : iR 0) (hW _ (by rw [if_neg (fun z => c1 z), if_pos c2]))
    · refine pq_k (pc' := 13) (v := (0, 1)) rfl rfl rfl (fun _ => rfl) ?_
      refine pq_goto (pc' := 17) rfl rfl ?_
      refine pq_w [] trivial ?_
      exact J202 1 (⟨by decide, by decide⟩ : iR 1) (hW _ (by rw [if_neg (fun z => c1 z), if_neg (fun z => c2 z)]))
def C_type10_17 (s : im_S) (Q : Int → im_S → Prop) : Prop := (Q (-1) s)
def C_type10 (l1 : Int) (s : im_S) (Q : Int → im_S → Prop) : Prop := (C_isSign10 l1 s (fun z2 s1 => ((z2 = 0 → (C_type10_17 s1 Q)) ∧ (¬ (z2 = 0) → ((¬ ((cgf s1 582 1) = 400) → ((0 ≤ (cgf s1 582 1) ∧ (cgf s1 582 1) < gln 583) → ∀ s7, s7 = cpa s1 583 (cgf s1 582 1) l1 → (∀ s9, s9 = cpf s7 582 1 (w32 ((cgf s7 582 1) + 1)) → (Q (cgf s9 582 1) s9)))) ∧ ((cgf s1 582 1) = 400 → (C_type10_17 s1 Q)))))))
set_option maxRecDepth 16384 in
theorem c_type10 (L : Nat) (ys : Nat → Int32) (d : Nat) (s : im_S) (hv : jR s) (l1 : Int) (l1r : iR l1) (Q : Int → im_S → Prop) (hW : C_type10 l1 s Q) : pcI L ys 0 d 103 [(2, ((582 : Nat) : Int)), (0, l1)] s (fun z9 s9 => jR s9 ∧ iR z9 ∧ Q z9 s9) := by
  intro res hres
  refine pq_start (M := rm_p_X10_type) (Q := (fun r : im_Re => ∃ z, r.1 = some (0, z) ∧ (jR r.2 ∧ iR z ∧ Q z r.2))) om_X10_type (fun d N => ?_) res hres
  refine pq_w [(0, (2, ((582 : Nat) : Int))), (1, (0, l1))] ⟨rfl, rfl, trivial⟩ ?_
  have J17 : ∀ N17 : Nat, N17 ≤ N → ∀ (s : im_S) (hv : jR s), C_type10_17 s Q → pq L ys d N17 rm_p_X10_type (17, [], [], s) (fun r : im_Re => ∃ z, r.1 = some (0, z) ∧ (jR r.2 ∧ iR z ∧ Q z r.2)) := by
    intro N17 hN17 s hv hW
    unfold C_type10_17 at hW
    refine pq_k (pc' := 18) (v := (0, (-1))) rfl rfl rfl (fun _ => rfl) ?_
    exact pq_iret rfl ⟨_, rfl, hv, (⟨by decide, by decide⟩ : iR (-1)), hW⟩
  unfold C_type10 at hW
  refine pq_l (pc' := 1) rfl rfl rfl rfl rfl ?_
  refine pq_cSI (pc' := 4) rfl rfl rfl rfl rfl (c_isSign10 L ys d s hv l1 l1r _ hW) (fun z2 s1 hr => ?_)
  obtain ⟨s1v, z2r, hW⟩ := hr
  refine pq_z_eq (pt := 17) (pc' := 7) rfl rfl rfl (fun c3 => ?_) (fun c3 => ?_)
  · have hW := hW.1 c3
    refine pq_w [] trivial ?_
    exact J17 N (by omega) s1 s1v hW
  · have hW := hW.2 c3
    refine pq_l (pc' := 8) rfl rfl rfl rfl rfl ?_
    refine pq_gi (pc' := 11) rfl rfl rfl rfl rfl (fun r4 => ?_)
    refine pq_k (pc' := 14) (v := (0, 400)) rfl rfl rfl (fun _ => rfl) ?_
    refine pq_c_ne (pt := 19) (pc' := 17) rfl rfl rfl (fun c5 => ?_) (fun c5 => ?_)
    · have hW := hW.1 c5
      refine pq_l (pc' := 20) rfl rfl rfl rfl rfl ?_
      refine pr_gr (pc' := 23) (v := 583) rfl rfl rfl rfl rfl s1v ?_
      refine pq_l (pc' := 24) rfl rfl rfl rfl rfl ?_
      refine pq_gi (pc' := 27) rfl rfl rfl rfl rfl (fun r6 => ?_)
      refine pq_l (pc' := 28) rfl rfl rfl rfl rfl ?_
      refine pr_is (pc' := 29) rfl rfl (by decide) (by decide) s1v (fun s7a s7b s7 s7e s7v => ?_)
      have hW := hW ⟨s7a, s7b⟩ s7 s7e
      refine pq_l (pc' := 30) rfl rfl rfl rfl rfl ?_
      refine pq_x (pc' := 31) rfl rfl rfl (fun _ => rfl) ?_
      refine pq_gi (pc' := 34) rfl rfl rfl rfl rfl (fun r8 => ?_)
      refine pq_k (pc' := 35) (v := (0, 1)) rfl rfl rfl (fun _ => rfl) ?_
      refine pq_add (pc' := 36) rfl rfl ?_
      refine pr_pX (pc' := 39) rfl rfl rfl rfl s7v (fun s9 s9e s9v => ?_)
      have hW := hW s9 s9e
      refine pq_l (pc' := 40) rfl rfl rfl rfl rfl ?_
      refine pq_gi (pc' := 43) rfl rfl rfl rfl rfl (fun r10 => ?_)
      exact pq_iret rfl ⟨_, rfl, s9v, r10, hW⟩
    · have hW := hW.2 c5
      refine pq_w [] trivial ?_
      exact J17 N (by omega) s1 s1v hW
def C_four10_108 (K69 : Int × im_S → Prop) (l1 : Int) (l3 : Int) (s : im_S) (Q : Int → im_S → Prop) : Prop := (K69 ((w32 (l3 + (-8))), s))
def C_four10_69 (K69 : Int × im_S → Prop) (l1 : Int) (l3 : Int) (s : im_S) (Q : Int → im_S → Prop) : Prop := ((l3 < 0 → (Q (cgf s 582 1) s)) ∧ (¬ (l3 < 0) → (((andI (shrI l1 l3) 255) = 0 → (C_four10_108 K69 l1 l3 s Q)) ∧ (¬ ((andI (shrI l1 l3) 255) = 0) → ((0 ≤ (cgf s 582 1) ∧ (cgf s 582 1) < gln 583) → ∀ s6, s6 = cpa s 583 (cgf s 582 1) (andI (shrI l1 l3) 255) → (∀ s8, s8 = cpf s6 582 1 (w32 ((cgf s6 582 1) + 1)) → (C_four10_108 K69 l1 l3 s8 Q)))))))
def C_four10_33 (K5 : Int × Int × im_S → Prop) (l1 : Int) (l2 : Int) (l3 : Int) (l4 : Int) (s : im_S) (Q : Int → im_S → Prop) : Prop := (∀ v209 : Int, v209 = (if ¬ (l4 = 0) then 1 else 0) → (K5 ((w32 (l2 + v209)), (w32 (l3 + (-8))), s)))
def C_four10_5 (K5 : Int × Int × im_S → Prop) (l1 : Int) (l2 : Int) (l3 : Int) (s : im_S) (Q : Int → im_S → Prop) : Prop := ((l3 < 0 → (((w32 ((cgf s 582 1) + l2)) ≤ 400 → (ploop (fun (K : Int × im_S → Prop) (a : Int × im_S) => C_four10_69 K l1 a.1 a.2 Q) (24, s))) ∧ (¬ ((w32 ((cgf s 582 1) + l2)) ≤ 400) → (Q (-1) s)))) ∧ (¬ (l3 < 0) → (((andI (shrI l1 l3) 255) = 0 → (C_four10_33 K5 l1 l2 l3 (andI (shrI l1 l3) 255) s Q)) ∧ (¬ ((andI (shrI l1 l3) 255) = 0) → (C_isSign10 (andI (shrI l1 l3) 255) s (fun z217 s216 => ((¬ (z217 = 0) → (C_four10_33 K5 l1 l2 l3 (andI (shrI l1 l3) 255) s216 Q)) ∧ (z217 = 0 → (Q (-1) s216)))))))))
def C_four10 (l1 : Int) (s : im_S) (Q : Int → im_S → Prop) : Prop := (ploop (fun (K : Int × Int × im_S → Prop) (a : Int × Int × im_S) => C_four10_5 K l1 a.1 a.2.1 a.2.2 Q) (0, 24, s))
set_option maxRecDepth 16384 in
theorem c_four10 (L : Nat) (ys : Nat → Int32) (d : Nat) (s : im_S) (hv : jR s) (l1 : Int) (l1r : iR l1) (Q : Int → im_S → Prop) (hW : C_four10 l1 s Q) : pcI L ys 0 d 42 [(2, ((582 : Nat) : Int)), (0, l1)] s (fun z9 s9 => jR s9 ∧ iR z9 ∧ Q z9 s9) := by
  intro res hres
  refine pq_start (M := rm_p_X10_four) (Q := (fun r : im_Re => ∃ z, r.1 = some (0, z) ∧ (jR r.2 ∧ iR z ∧ Q z r.2))) om_X10_four (fun d N => ?_) res hres
  refine pq_w [(0, (2, ((582 : Nat) : Int))), (1, (0, l1))] ⟨rfl, rfl, trivial⟩ ?_
  have J69 : ∀ (l1 : Int) (l1r : iR l1) (I69 : Int × im_S → Prop) (hB69 : ∀ a : Int × im_S, I69 a → C_four10_69 I69 l1 a.1 a.2 Q), ∀ N69 : Nat, N69 ≤ N → ∀ (l3 : Int) (l3r : iR l3) (s : im_S) (hv : jR s), I69 (l3, s) → pq L ys d N69 rm_p_X10_four (69, [(0, (2, ((582 : Nat) : Int))), (1, (0, l1)), (3, (0, l3))], [], s) (fun r : im_Re => ∃ z, r.1 = some (0, z) ∧ (jR r.2 ∧ iR z ∧ Q z r.2)) := by
    intro l1 l1r I69 hB69 N69
    induction N69 using Nat.strongRecOn with
    | _ N69 ih69 =>
      intro hN69 l3 l3r s hv hI
      have hW : C_four10_69 I69 l1 l3 s Q := hB69 (l3, s) hI
      have J108 : ∀ N108 : Nat, N108 ≤ N69 → ∀ (l3 : Int) (l3r : iR l3) (s : im_S) (hv : jR s), C_four10_108 I69 l1 l3 s Q → pq L ys d N108 rm_p_X10_four (108, [(0, (2, ((582 : Nat) : Int))), (1, (0, l1)), (3, (0, l3))], [], s) (fun r : im_Re => ∃ z, r.1 = some (0, z) ∧ (jR r.2 ∧ iR z ∧ Q z r.2)) := by
        intro N108 hN108 l3 l3r s hv hW
        unfold C_four10_108 at hW
        refine pq_inc (pc' := 111) rfl rfl rfl rfl ?_
        refine pq_gotoT (pc' := 69) rfl rfl (fun m1 m1l => ?_)
        refine pq_w [(0, (2, ((582 : Nat) : Int))), (1, (0, l1)), (3, (0, (w32 (l3 + (-8)))))] ⟨rfl, rfl, rfl, trivial⟩ ?_
        exact ih69 m1 (by omega) (by omega) (w32 (l3 + (-8))) (w32_r _) s hv hW
      unfold C_four10_69 at hW
      refine pq_l (pc' := 70) rfl rfl rfl rfl rfl ?_
      refine pq_z_lt (pt := 114) (pc' := 73) rfl rfl rfl (fun c2 => ?_) (fun c2 => ?_)
      · have hW := hW.1 c2
        refine pq_l (pc' := 115) rfl rfl rfl rfl rfl ?_
        refine pq_gi (pc' := 118) rfl rfl rfl rfl rfl (fun r3 => ?_)
        exact pq_iret rfl ⟨_, rfl, hv, r3, hW⟩
      · have hW := hW.2 c2
        refine pq_l (pc' := 74) rfl rfl rfl rfl rfl ?_
        refine pq_l (pc' := 75) rfl rfl rfl rfl rfl ?_
        refine pq_ishr (pc' := 76) rfl rfl ?_
        refine pq_k (pc' := 79) (v := (0, 255)) rfl rfl rfl (fun _ => rfl) ?_
        refine pq_iand (pc' := 80) rfl rfl ?_
        refine pq_s (pc' := 82) rfl rfl rfl rfl rfl ?_
        refine pq_l (pc' := 84) rfl rfl rfl rfl rfl ?_
        refine pq_z_eq (pt := 108) (pc' := 87) rfl rfl rfl (fun c4 => ?_) (fun c4 => ?_)
        · have hW := hW.1 c4
          refine pq_w [(0, (2, ((582 : Nat) : Int))), (1, (0, l1)), (3, (0, l3))] ⟨rfl, rfl, rfl, trivial⟩ ?_
          exact J108 N69 (by omega) l3 l3r s hv hW
        · have hW := hW.2 c4
          refine pq_l (pc' := 88) rfl rfl rfl rfl rfl ?_
          refine pr_gr (pc' := 91) (v := 583) rfl rfl rfl rfl rfl hv ?_
          refine pq_l (pc' := 92) rfl rfl rfl rfl rfl ?_
          refine pq_gi (pc' := 95) rfl rfl rfl rfl rfl (fun r5 => ?_)
          refine pq_l (pc' := 97) rfl rfl rfl rfl rfl ?_
          refine pr_is (pc' := 98) rfl rfl (by decide) (by decide) hv (fun s6a s6b s6 s6e s6v => ?_)
          have hW := hW ⟨s6a, s6b⟩ s6 s6e
          refine pq_l (pc' := 99) rfl rfl rfl rfl rfl ?_
          refine pq_x (pc' := 100) rfl rfl rfl (fun _ => rfl) ?_
          refine pq_gi (pc' := 103) rfl rfl rfl rfl rfl (fun r7 => ?_)
          refine pq_k (pc' := 104) (v := (0, 1)) rfl rfl rfl (fun _ => rfl) ?_
          refine pq_add (pc' := 105) rfl rfl ?_
          refine pr_pX (pc' := 108) rfl rfl rfl rfl s6v (fun s8 s8e s8v => ?_)
          have hW := hW s8 s8e
          refine pq_w [(0, (2, ((582 : Nat) : Int))), (1, (0, l1)), (3, (0, l3))] ⟨rfl, rfl, rfl, trivial⟩ ?_
          exact J108 N69 (by omega) l3 l3r s8 s8v hW
  have J5 : ∀ (l1 : Int) (l1r : iR l1) (I5 : Int × Int × im_S → Prop) (hB5 : ∀ a : Int × Int × im_S, I5 a → C_four10_5 I5 l1 a.1 a.2.1 a.2.2 Q), ∀ N5 : Nat, N5 ≤ N → ∀ (l2 : Int) (l2r : iR l2) (l3 : Int) (l3r : iR l3) (s : im_S) (hv : jR s), I5 (l2, l3, s) → pq L ys d N5 rm_p_X10_four (5, [(0, (2, ((582 : Nat) : Int))), (1, (0, l1)), (2, (0, l2)), (3, (0, l3))], [], s) (fun r : im_Re => ∃ z, r.1 = some (0, z) ∧ (jR r.2 ∧ iR z ∧ Q z r.2)) := by
    intro l1 l1r I5 hB5 N5
    induction N5 using Nat.strongRecOn with
    | _ N5 ih5 =>
      intro hN5 l2 l2r l3 l3r s hv hI
      have hW : C_four10_5 I5 l1 l2 l3 s Q := hB5 (l2, l3, s) hI
      have J33 : ∀ N33 : Nat, N33 ≤ N5 → ∀ (l2 : Int) (l2r : iR l2) (l3 : Int) (l3r : iR l3) (l4 : Int) (l4r : iR l4) (s : im_S) (hv : jR s), C_four10_33 I5 l1 l2 l3 l4 s Q → pq L ys d N33 rm_p_X10_four (33, [(0, (2, ((582 : Nat) : Int))), (1, (0, l1)), (2, (0, l2)), (3, (0, l3)), (4, (0, l4))], [], s) (fun r : im_Re => ∃ z, r.1 = some (0, z) ∧ (jR r.2 ∧ iR z ∧ Q z r.2)) := by
        intro N33 hN33 l2 l2r l3 l3r l4 l4r s hv hW
        unfold C_four10_33 at hW
        refine pq_l (pc' := 34) rfl rfl rfl rfl rfl ?_
        refine pq_l (pc' := 36) rfl rfl rfl rfl rfl ?_
        have J210 : ∀ v209 : Int, iR v209 → ((I5 ((w32 (l2 + v209)), (w32 (l3 + (-8))), s))) → pq L ys d N33 rm_p_X10_four (44, [(0, (2, ((582 : Nat) : Int))), (1, (0, l1)), (3, (0, l3))], [(0, v209), (0, l2)], s) (fun r : im_Re => ∃ z, r.1 = some (0, z) ∧ (jR r.2 ∧ iR z ∧ Q z r.2)) := by
          intro v209 v209r hW
          refine pq_add (pc' := 45) rfl rfl ?_
          refine pq_s (pc' := 46) rfl rfl rfl rfl rfl ?_
          refine pq_inc (pc' := 49) rfl rfl rfl rfl ?_
          refine pq_gotoT (pc' := 5) rfl rfl (fun m211 m211l => ?_)
          refine pq_w [(0, (2, ((582 : Nat) : Int))), (1, (0, l1)), (2, (0, (w32 (l2 + v209)))), (3, (0, (w32 (l3 + (-8)))))] ⟨rfl, rfl, rfl, rfl, trivial⟩ ?_
          exact ih5 m211 (by omega) (by omega) (w32 (l2 + v209)) (w32_r _) (w32 (l3 + (-8))) (w32_r _) s hv hW
        refine pq_z_ne (pt := 43) (pc' := 39) rfl rfl rfl (fun c9 => ?_) (fun c9 => ?_)
        · refine pq_k (pc' := 44) (v := (0, 1)) rfl rfl rfl (fun _ => rfl) ?_
          refine pq_w [(0, (2, ((582 : Nat) : Int))), (1, (0, l1)), (3, (0, l3))] ⟨rfl, rfl, rfl, trivial⟩ ?_
          exact J210 1 (⟨by decide, by decide⟩ : iR 1) (hW _ (by rw [if_pos c9]))
        · refine pq_k (pc' := 40) (v := (0, 0)) rfl rfl rfl (fun _ => rfl) ?_
          refine pq_goto (pc' := 44) rfl rfl ?_
          refine pq_w [(0, (2, ((582 : Nat) : Int))), (1, (0, l1)), (3, (0, l3))] ⟨rfl, rfl, rfl, trivial⟩ ?_
          exact J210 0 (⟨by decide, by decide⟩ : iR 0) (hW _ (by rw [if_neg (by omega)]))
      unfold C_four10_5 at hW
      refine pq_l (pc' := 6) rfl rfl rfl rfl rfl ?_
      refine pq_z_lt (pt := 52) (pc' := 9) rfl rfl rfl (fun c212 => ?_) (fun c212 => ?_)
      · have hW := hW.1 c212
        refine pq_l (pc' := 53) rfl rfl rfl rfl rfl ?_
        refine pq_gi (pc' := 56) rfl rfl rfl rfl rfl (fun r213 => ?_)
        refine pq_l (pc' := 57) rfl rfl rfl rfl rfl ?_
        refine pq_add (pc' := 58) rfl rfl ?_
        refine pq_k (pc' := 61) (v := (0, 400)) rfl rfl rfl (fun _ => rfl) ?_
        refine pq_c_le (pt := 66) (pc' := 64) rfl rfl rfl (fun c214 => ?_) (fun c214 => ?_)
        · have hW := hW.1 c214
          refine pq_k (pc' := 68) (v := (0, 24)) rfl rfl rfl (fun _ => rfl) ?_
          refine pq_s (pc' := 69) rfl rfl rfl rfl rfl ?_
          refine pq_w [(0, (2, ((582 : Nat) : Int))), (1, (0, l1)), (3, (0, 24))] ⟨rfl, rfl, rfl, trivial⟩ ?_
          obtain ⟨I9, hI9, hB9⟩ := hW
          exact J69 l1 l1r I9 hB9 N5 (by omega) 24 (⟨by decide, by decide⟩ : iR 24) s hv hI9
        · have hW := hW.2 c214
          refine pq_k (pc' := 65) (v := (0, (-1))) rfl rfl rfl (fun _ => rfl) ?_
          exact pq_iret rfl ⟨_, rfl, hv, (⟨by decide, by decide⟩ : iR (-1)), hW⟩
      · have hW := hW.2 c212
        refine pq_l (pc' := 10) rfl rfl rfl rfl rfl ?_
        refine pq_l (pc' := 11) rfl rfl rfl rfl rfl ?_
        refine pq_ishr (pc' := 12) rfl rfl ?_
        refine pq_k (pc' := 15) (v := (0, 255)) rfl rfl rfl (fun _ => rfl) ?_
        refine pq_iand (pc' := 16) rfl rfl ?_
        refine pq_s (pc' := 18) rfl rfl rfl rfl rfl ?_
        refine pq_l (pc' := 20) rfl rfl rfl rfl rfl ?_
        refine pq_z_eq (pt := 33) (pc' := 23) rfl rfl rfl (fun c215 => ?_) (fun c215 => ?_)
        · have hW := hW.1 c215
          refine pq_w [(0, (2, ((582 : Nat) : Int))), (1, (0, l1)), (2, (0, l2)), (3, (0, l3)), (4, (0, (andI (shrI l1 l3) 255)))] ⟨rfl, rfl, rfl, rfl, rfl, trivial⟩ ?_
          exact J33 N5 (by omega) l2 l2r l3 l3r (andI (shrI l1 l3) 255) (andI_r _ _) s hv hW
        · have hW := hW.2 c215
          refine pq_l (pc' := 25) rfl rfl rfl rfl rfl ?_
          refine pq_cSI (pc' := 28) rfl rfl rfl rfl rfl (c_isSign10 L ys d s hv (andI (shrI l1 l3) 255) (andI_r _ _) _ hW) (fun z217 s216 hr => ?_)
          obtain ⟨s216v, z217r, hW⟩ := hr
          refine pq_z_ne (pt := 33) (pc' := 31) rfl rfl rfl (fun c218 => ?_) (fun c218 => ?_)
          · have hW := hW.1 c218
            refine pq_w [(0, (2, ((582 : Nat) : Int))), (1, (0, l1)), (2, (0, l2)), (3, (0, l3)), (4, (0, (andI (shrI l1 l3) 255)))] ⟨rfl, rfl, rfl, rfl, rfl, trivial⟩ ?_
            exact J33 N5 (by omega) l2 l2r l3 l3r (andI (shrI l1 l3) 255) (andI_r _ _) s216 s216v hW
          · have hW := hW.2 c218
            refine pq_k (pc' := 32) (v := (0, (-1))) rfl rfl rfl (fun _ => rfl) ?_
            exact pq_iret rfl ⟨_, rfl, s216v, (⟨by decide, by decide⟩ : iR (-1)), hW⟩
  unfold C_four10 at hW
  refine pq_k (pc' := 1) (v := (0, 0)) rfl rfl rfl (fun _ => rfl) ?_
  refine pq_s (pc' := 2) rfl rfl rfl rfl rfl ?_
  refine pq_k (pc' := 4) (v := (0, 24)) rfl rfl rfl (fun _ => rfl) ?_
  refine pq_s (pc' := 5) rfl rfl rfl rfl rfl ?_
  refine pq_w [(0, (2, ((582 : Nat) : Int))), (1, (0, l1)), (2, (0, 0)), (3, (0, 24))] ⟨rfl, rfl, rfl, rfl, trivial⟩ ?_
  obtain ⟨I9, hI9, hB9⟩ := hW
  exact J5 l1 l1r I9 hB9 N (by omega) 0 (⟨by decide, by decide⟩ : iR 0) 24 (⟨by decide, by decide⟩ : iR 24) s hv hI9
def C_good10 (s : im_S) (Q : Int → im_S → Prop) : Prop := (∀ v202 : Int, v202 = (if ¬ ((cgf s 582 2) = 0) then 0 else 1) → (Q v202 s))
set_option maxRecDepth 16384 in
theorem c_good10 (L : Nat) (ys : Nat → Int32) (d : Nat) (s : im_S) (hv : jR s) (Q : Int → im_S → Prop) (hW : C_good10 s Q) : pcI L ys 0 d 45 [(2, ((582 : Nat) : Int))] s (fun z9 s9 => jR s9 ∧ iR z9 ∧ Q z9 s9) := by
  intro res hres
  refine pq_start (M := rm_p_X10_good) (Q := (fun r : im_Re => ∃ z, r.1 = some (0, z) ∧ (jR r.2 ∧ iR z ∧ Q z r.2))) om_X10_good (fun d N => ?_) res hres
  refine pq_w [(0, (2, ((582 : Nat) : Int)))] ⟨rfl, trivial⟩ ?_
  unfold C_good10 at hW
  refine pq_l (pc' := 1) rfl rfl rfl rfl rfl ?_
  refine pq_gi (pc' := 4) rfl rfl rfl rfl rfl (fun r1 => ?_)
  have J203 : ∀ v202 : Int, iR v202 → ((Q v202 s)) → pq L ys d N rm_p_X10_good (12, [], [(0, v202)], s) (fun r : im_Re => ∃ z, r.1 = some (0, z) ∧ (jR r.2 ∧ iR z ∧ Q z r.2)) := by
    intro v202 v202r hW
    exact pq_iret rfl ⟨_, rfl, hv, v202r, hW⟩
  refine pq_z_ne (pt := 11) (pc' := 7) rfl rfl rfl (fun c2 => ?_) (fun c2 => ?_)
  · refine pq_k (pc' := 12) (v := (0, 0)) rfl rfl rfl (fun _ => rfl) ?_
    refine pq_w [] trivial ?_
    exact J203 0 (⟨by decide, by decide⟩ : iR 0) (hW _ (by rw [if_pos c2]))
  · refine pq_k (pc' := 8) (v := (0, 1)) rfl rfl rfl (fun _ => rfl) ?_
    refine pq_goto (pc' := 12) rfl rfl ?_
    refine pq_w [] trivial ?_
    exact J203 1 (⟨by decide, by decide⟩ : iR 1) (hW _ (by rw [if_neg (by omega)]))
def C_fail10_17 (s : im_S) (Q : im_S → Prop) : Prop := (Q s)
def C_fail10 (l1 : Int) (l2 : Int) (s : im_S) (Q : im_S → Prop) : Prop := ((¬ ((cgf s 582 2) = 0) → (C_fail10_17 s Q)) ∧ ((cgf s 582 2) = 0 → (∀ s3, s3 = cpf s 582 2 l1 → (∀ s4, s4 = cpf s3 582 3 l2 → (C_fail10_17 s4 Q)))))
set_option maxRecDepth 16384 in
theorem c_fail10 (L : Nat) (ys : Nat → Int32) (d : Nat) (s : im_S) (hv : jR s) (l1 : Int) (l1r : iR l1) (l2 : Int) (l2r : iR l2) (Q : im_S → Prop) (hW : C_fail10 l1 l2 s Q) : pcV L ys d 35 [(2, ((582 : Nat) : Int)), (0, l1), (0, l2)] s (fun s9 => jR s9 ∧ Q s9) := by
  intro res hres
  refine pq_start (M := rm_p_X10_fail) (Q := (fun r : im_Re => r.1 = none ∧ (jR r.2 ∧ Q r.2))) om_X10_fail (fun d N => ?_) res hres
  refine pq_w [(0, (2, ((582 : Nat) : Int))), (1, (0, l1)), (2, (0, l2))] ⟨rfl, rfl, rfl, trivial⟩ ?_
  have J17 : ∀ N17 : Nat, N17 ≤ N → ∀ (s : im_S) (hv : jR s), C_fail10_17 s Q → pq L ys d N17 rm_p_X10_fail (17, [], [], s) (fun r : im_Re => r.1 = none ∧ (jR r.2 ∧ Q r.2)) := by
    intro N17 hN17 s hv hW
    unfold C_fail10_17 at hW
    exact pq_vret rfl ⟨rfl, hv, hW⟩
  unfold C_fail10 at hW
  refine pq_l (pc' := 1) rfl rfl rfl rfl rfl ?_
  refine pq_gi (pc' := 4) rfl rfl rfl rfl rfl (fun r1 => ?_)
  refine pq_z_ne (pt := 17) (pc' := 7) rfl rfl rfl (fun c2 => ?_) (fun c2 => ?_)
  · have hW := hW.1 c2
    refine pq_w [] trivial ?_
    exact J17 N (by omega) s hv hW
  · have hW := hW.2 c2
    refine pq_l (pc' := 8) rfl rfl rfl rfl rfl ?_
    refine pq_l (pc' := 9) rfl rfl rfl rfl rfl ?_
    refine pr_pX (pc' := 12) rfl rfl rfl rfl hv (fun s3 s3e s3v => ?_)
    have hW := hW s3 s3e
    refine pq_l (pc' := 13) rfl rfl rfl rfl rfl ?_
    refine pq_l (pc' := 14) rfl rfl rfl rfl rfl ?_
    refine pr_pX (pc' := 17) rfl rfl rfl rfl s3v (fun s4 s4e s4v => ?_)
    have hW := hW s4 s4e
    refine pq_w [] trivial ?_
    exact J17 N (by omega) s4 s4v hW
def C_peek10_38 (s : im_S) (Q : Int → im_S → Prop) : Prop := (∀ v203 : Int, v203 = (if (cgf s 582 1) ≤ (cgf s 582 4) then (-1) else (cga s 583 (cgf s 582 4))) → (Q v203 s))
def C_peek10_0 (K0 : im_S → Prop) (s : im_S) (Q : Int → im_S → Prop) : Prop := (((cgf s 582 1) ≤ (cgf s 582 4) → (C_peek10_38 s Q)) ∧ (¬ ((cgf s 582 1) ≤ (cgf s 582 4)) → (caI s 583 (cgf s 582 4) → ((¬ ((cga s 583 (cgf s 582 4)) = 32) → (C_peek10_38 s Q)) ∧ ((cga s 583 (cgf s 582 4)) = 32 → (∀ s212, s212 = cpf s 582 4 (w32 ((cgf s 582 4) + 1)) → (K0 (s212))))))))
def C_peek10 (s : im_S) (Q : Int → im_S → Prop) : Prop := (ploop (fun (K : im_S → Prop) (a : im_S) => C_peek10_0 K a Q) (s))
set_option maxRecDepth 16384 in
theorem c_peek10 (L : Nat) (ys : Nat → Int32) (d : Nat) (s : im_S) (hv : jR s) (Q : Int → im_S → Prop) (hW : C_peek10 s Q) : pcI L ys 0 d 76 [(2, ((582 : Nat) : Int))] s (fun z9 s9 => jR s9 ∧ iR z9 ∧ Q z9 s9) := by
  intro res hres
  refine pq_start (M := rm_p_X10_peek) (Q := (fun r : im_Re => ∃ z, r.1 = some (0, z) ∧ (jR r.2 ∧ iR z ∧ Q z r.2))) om_X10_peek (fun d N => ?_) res hres
  refine pq_w [(0, (2, ((582 : Nat) : Int)))] ⟨rfl, trivial⟩ ?_
  have J38 : ∀ N38 : Nat, N38 ≤ N → ∀ (s : im_S) (hv : jR s), C_peek10_38 s Q → pq L ys d N38 rm_p_X10_peek (38, [(0, (2, ((582 : Nat) : Int)))], [], s) (fun r : im_Re => ∃ z, r.1 = some (0, z) ∧ (jR r.2 ∧ iR z ∧ Q z r.2)) := by
    intro N38 hN38 s hv hW
    unfold C_peek10_38 at hW
    refine pq_l (pc' := 39) rfl rfl rfl rfl rfl ?_
    refine pq_gi (pc' := 42) rfl rfl rfl rfl rfl (fun r1 => ?_)
    refine pq_l (pc' := 43) rfl rfl rfl rfl rfl ?_
    refine pq_gi (pc' := 46) rfl rfl rfl rfl rfl (fun r2 => ?_)
    have J204 : ∀ v203 : Int, iR v203 → ((Q v203 s)) → pq L ys d N38 rm_p_X10_peek (62, [], [(0, v203)], s) (fun r : im_Re => ∃ z, r.1 = some (0, z) ∧ (jR r.2 ∧ iR z ∧ Q z r.2)) := by
      intro v203 v203r hW
      exact pq_iret rfl ⟨_, rfl, hv, v203r, hW⟩
    refine pq_c_ge (pt := 61) (pc' := 49) rfl rfl rfl (fun c3 => ?_) (fun c3 => ?_)
    · refine pq_k (pc' := 62) (v := (0, (-1))) rfl rfl rfl (fun _ => rfl) ?_
      refine pq_w [] trivial ?_
      exact J204 (-1) (⟨by decide, by decide⟩ : iR (-1)) (hW _ (by rw [if_pos c3]))
    · refine pq_l (pc' := 50) rfl rfl rfl rfl rfl ?_
      refine pr_gr (pc' := 53) (v := 583) rfl rfl rfl rfl rfl hv ?_
      refine pq_l (pc' := 54) rfl rfl rfl rfl rfl ?_
      refine pq_gi (pc' := 57) rfl rfl rfl rfl rfl (fun r4 => ?_)
      refine pq_ia (pc' := 58) rfl rfl (fun r5a r5b r5 => ?_)
      refine pq_goto (pc' := 62) rfl rfl ?_
      refine pq_w [] trivial ?_
      exact J204 (cga s 583 (cgf s 582 4)) r5 (hW _ (by rw [if_neg (fun z => c3 z)]))
  have J0 : ∀ (I0 : im_S → Prop) (hB0 : ∀ a : im_S, I0 a → C_peek10_0 I0 a Q), ∀ N0 : Nat, N0 ≤ N → ∀ (s : im_S) (hv : jR s), I0 (s) → pq L ys d N0 rm_p_X10_peek (0, [(0, (2, ((582 : Nat) : Int)))], [], s) (fun r : im_Re => ∃ z, r.1 = some (0, z) ∧ (jR r.2 ∧ iR z ∧ Q z r.2)) := by
    intro I0 hB0 N0
    induction N0 using Nat.strongRecOn with
    | _ N0 ih0 =>
      intro hN0 s hv hI
      have hW : C_peek10_0 I0 s Q := hB0 (s) hI
      unfold C_peek10_0 at hW
      refine pq_l (pc' := 1) rfl rfl rfl rfl rfl ?_
      refine pq_gi (pc' := 4) rfl rfl rfl rfl rfl (fun r205 => ?_)
      refine pq_l (pc' := 5) rfl rfl rfl rfl rfl ?_
      refine pq_gi (pc' := 8) rfl rfl rfl rfl rfl (fun r206 => ?_)
      refine pq_c_ge (pt := 38) (pc' := 11) rfl rfl rfl (fun c207 => ?_) (fun c207 => ?_)
      · have hW := hW.1 c207
        refine pq_w [(0, (2, ((582 : Nat) : Int)))] ⟨rfl, trivial⟩ ?_
        exact J38 N0 (by omega) s hv hW
      · have hW := hW.2 c207
        refine pq_l (pc' := 12) rfl rfl rfl rfl rfl ?_
        refine pr_gr (pc' := 15) (v := 583) rfl rfl rfl rfl rfl hv ?_
        refine pq_l (pc' := 16) rfl rfl rfl rfl rfl ?_
        refine pq_gi (pc' := 19) rfl rfl rfl rfl rfl (fun r208 => ?_)
        refine pq_ia (pc' := 20) rfl rfl (fun r209a r209b r209 => ?_)
        have hW := hW ⟨⟨r209a, r209b⟩, r209⟩
        refine pq_k (pc' := 22) (v := (0, 32)) rfl rfl rfl (fun _ => rfl) ?_
        refine pq_c_ne (pt := 38) (pc' := 25) rfl rfl rfl (fun c210 => ?_) (fun c210 => ?_)
        · have hW := hW.1 c210
          refine pq_w [(0, (2, ((582 : Nat) : Int)))] ⟨rfl, trivial⟩ ?_
          exact J38 N0 (by omega) s hv hW
        · have hW := hW.2 c210
          refine pq_l (pc' := 26) rfl rfl rfl rfl rfl ?_
          refine pq_x (pc' := 27) rfl rfl rfl (fun _ => rfl) ?_
          refine pq_gi (pc' := 30) rfl rfl rfl rfl rfl (fun r211 => ?_)
          refine pq_k (pc' := 31) (v := (0, 1)) rfl rfl rfl (fun _ => rfl) ?_
          refine pq_add (pc' := 32) rfl rfl ?_
          refine pr_pX (pc' := 35) rfl rfl rfl rfl hv (fun s212 s212e s212v => ?_)
          have hW := hW s212 s212e
          refine pq_gotoT (pc' := 0) rfl rfl (fun m213 m213l => ?_)
          refine pq_w [(0, (2, ((582 : Nat) : Int)))] ⟨rfl, trivial⟩ ?_
          exact ih0 m213 (by omega) (by omega) s212 s212v hW
  unfold C_peek10 at hW
  refine pq_w [(0, (2, ((582 : Nat) : Int)))] ⟨rfl, trivial⟩ ?_
  obtain ⟨I9, hI9, hB9⟩ := hW
  exact J0 I9 hB9 N (by omega) s hv hI9
def C_isDigit10 (l0 : Int) (s : im_S) (Q : Int → im_S → Prop) : Prop := (∀ v201 : Int, v201 = (if l0 < 48 then 0 else (if 57 < l0 then 0 else 1)) → (Q v201 s))
set_option maxRecDepth 16384 in
theorem c_isDigit10 (L : Nat) (ys : Nat → Int32) (d : Nat) (s : im_S) (hv : jR s) (l0 : Int) (l0r : iR l0) (Q : Int → im_S → Prop) (hW : C_isDigit10 l0 s Q) : pcI L ys 0 d 52 [(0, l0)] s (fun z9 s9 => jR s9 ∧ iR z9 ∧ Q z9 s9) := by
  intro res hres
  refine pq_start (M := rm_p_X10_isDigit) (Q := (fun r : im_Re => ∃ z, r.1 = some (0, z) ∧ (jR r.2 ∧ iR z ∧ Q z r.2))) om_X10_isDigit (fun d N => ?_) res hres
  refine pq_w [(0, (0, l0))] ⟨rfl, trivial⟩ ?_
  unfold C_isDigit10 at hW
  refine pq_l (pc' := 1) rfl rfl rfl rfl rfl ?_
  refine pq_k (pc' := 3) (v := (0, 48)) rfl rfl rfl (fun _ => rfl) ?_
  have J202 : ∀ v201 : Int, iR v201 → ((Q v201 s)) → pq L ys d N rm_p_X10_isDigit (17, [], [(0, v201)], s) (fun r : im_Re => ∃ z, r.1 = some (0, z) ∧ (jR r.2 ∧ iR z ∧ Q z r.2)) := by
    intro v201 v201r hW
    exact pq_iret rfl ⟨_, rfl, hv, v201r, hW⟩
  refine pq_c_lt (pt := 16) (pc' := 6) rfl rfl rfl (fun c1 => ?_) (fun c1 => ?_)
  · refine pq_k (pc' := 17) (v := (0, 0)) rfl rfl rfl (fun _ => rfl) ?_
    refine pq_w [] trivial ?_
    exact J202 0 (⟨by decide, by decide⟩ : iR 0) (hW _ (by rw [if_pos c1]))
  · refine pq_l (pc' := 7) rfl rfl rfl rfl rfl ?_
    refine pq_k (pc' := 9) (v := (0, 57)) rfl rfl rfl (fun _ => rfl) ?_
    refine pq_c_gt (pt := 16) (pc' := 12) rfl rfl rfl (fun c2 => ?_) (fun c2 => ?_)
    · refine pq_k (pc' := 17) (v := (0, 0)) rfl rfl rfl (fun _ => rfl) ?_
      refine pq_w [] trivial ?_
      exact J202 0 (⟨by decide, by decide⟩ : iR 0) (hW _ (by rw [if_neg (fun z => c1 z), if_pos c2]))
    · refine pq_k (pc' := 13) (v := (0, 1)) rfl rfl rfl (fun _ => rfl) ?_
      refine pq_goto (pc' := 17) rfl rfl ?_
      refine pq_w [] trivial ?_
      exact J202 1 (⟨by decide, by decide⟩ : iR 1) (hW _ (by rw [if_neg (fun z => c1 z), if_neg (fun z => c2 z)]))
def C_isToken10_102 (k0 : Int) (s : im_S) (Q : Int → im_S → Prop) : Prop := (Q k0 s)
def C_isToken10_97 (s : im_S) (Q : Int → im_S → Prop) : Prop := (C_isToken10_102 1 s Q)
def C_isToken10 (l0 : Int) (s : im_S) (Q : Int → im_S → Prop) : Prop := (C_isDigit10 l0 s (fun z2 s1 => ((¬ (z2 = 0) → (C_isToken10_97 s1 Q)) ∧ (z2 = 0 → ((l0 = 124 → (C_isToken10_97 s1 Q)) ∧ (¬ (l0 = 124) → ((l0 = 38 → (C_isToken10_97 s1 Q)) ∧ (¬ (l0 = 38) → ((l0 = 126 → (C_isToken10_97 s1 Q)) ∧ (¬ (l0 = 126) → ((l0 = 91 → (C_isToken10_97 s1 Q)) ∧ (¬ (l0 = 91) → ((l0 = 93 → (C_isToken10_97 s1 Q)) ∧ (¬ (l0 = 93) → ((l0 = 61 → (C_isToken10_97 s1 Q)) ∧ (¬ (l0 = 61) → ((l0 = 60 → (C_isToken10_97 s1 Q)) ∧ (¬ (l0 = 60) → ((l0 = 62 → (C_isToken10_97 s1 Q)) ∧ (¬ (l0 = 62) → (∀ v212 : Int, v212 = (if l0 = 45 then 1 else (if l0 = 43 then 1 else (if l0 = 42 then 1 else (if l0 = 94 then 1 else (if l0 = 120 then 1 else (if l0 = 40 then 1 else (if ¬ (l0 = 41) then 0 else 1))))))) → (C_isToken10_102 v212 s1 Q))))))))))))))))))))))
set_option maxRecDepth 16384 in
theorem c_isToken10 (L : Nat) (ys : Nat → Int32) (d : Nat) (s : im_S) (hv : jR s) (l0 : Int) (l0r : iR l0) (Q : Int → im_S → Prop) (hW : C_isToken10 l0 s Q) : pcI L ys 0 d 58 [(0, l0)] s (fun z9 s9 => jR s9 ∧ iR z9 ∧ Q z9 s9) := by
  intro res hres
  refine pq_start (M := rm_p_X10_isToken) (Q := (fun r : im_Re => ∃ z, r.1 = some (0, z) ∧ (jR r.2 ∧ iR z ∧ Q z r.2))) om_X10_isToken (fun d N => ?_) res hres
  refine pq_w [(0, (0, l0))] ⟨rfl, trivial⟩ ?_
  have J102 : ∀ N102 : Nat, N102 ≤ N → ∀ (k0 : Int) (k0r : iR k0) (s : im_S) (hv : jR s), C_isToken10_102 k0 s Q → pq L ys d N102 rm_p_X10_isToken (102, [], [(0, k0)], s) (fun r : im_Re => ∃ z, r.1 = some (0, z) ∧ (jR r.2 ∧ iR z ∧ Q z r.2)) := by
    intro N102 hN102 k0 k0r s hv hW
    unfold C_isToken10_102 at hW
    exact pq_iret rfl ⟨_, rfl, hv, k0r, hW⟩
  have J97 : ∀ N97 : Nat, N97 ≤ N → ∀ (s : im_S) (hv : jR s), C_isToken10_97 s Q → pq L ys d N97 rm_p_X10_isToken (97, [], [], s) (fun r : im_Re => ∃ z, r.1 = some (0, z) ∧ (jR r.2 ∧ iR z ∧ Q z r.2)) := by
    intro N97 hN97 s hv hW
    unfold C_isToken10_97 at hW
    refine pq_k (pc' := 98) (v := (0, 1)) rfl rfl rfl (fun _ => rfl) ?_
    refine pq_goto (pc' := 102) rfl rfl ?_
    refine pq_w [] trivial ?_
    exact J102 N97 (by omega) 1 (⟨by decide, by decide⟩ : iR 1) s hv hW
  unfold C_isToken10 at hW
  refine pq_l (pc' := 1) rfl rfl rfl rfl rfl ?_
  refine pq_cSI (pc' := 4) rfl rfl rfl rfl rfl (c_isDigit10 L ys d s hv l0 l0r _ hW) (fun z2 s1 hr => ?_)
  obtain ⟨s1v, z2r, hW⟩ := hr
  refine pq_z_ne (pt := 97) (pc' := 7) rfl rfl rfl (fun c3 => ?_) (fun c3 => ?_)
  · have hW := hW.1 c3
    refine pq_w [] trivial ?_
    exact J97 N (by omega) s1 s1v hW
  · have hW := hW.2 c3
    refine pq_l (pc' := 8) rfl rfl rfl rfl rfl ?_
    refine pq_k (pc' := 10) (v := (0, 124)) rfl rfl rfl (fun _ => rfl) ?_
    refine pq_c_eq (pt := 97) (pc' := 13) rfl rfl rfl (fun c4 => ?_) (fun c4 => ?_)
    · have hW := hW.1 c4
      refine pq_w [] trivial ?_
      exact J97 N (by omega) s1 s1v hW
    · have hW := hW.2 c4
      refine pq_l (pc' := 14) rfl rfl rfl rfl rfl ?_
      refine pq_k (pc' := 16) (v := (0, 38)) rfl rfl rfl (fun _ => rfl) ?_
      refine pq_c_eq (pt := 97) (pc' := 19) rfl rfl rfl (fun c5 => ?_) (fun c5 => ?_)
      · have hW := hW.1 c5
        refine pq_w [] trivial ?_
        exact J97 N (by omega) s1 s1v hW
      · have hW := hW.2 c5
        refine pq_l (pc' := 20) rfl rfl rfl rfl rfl ?_
        refine pq_k (pc' := 22) (v := (0, 126)) rfl rfl rfl (fun _ => rfl) ?_
        refine pq_c_eq (pt := 97) (pc' := 25) rfl rfl rfl (fun c6 => ?_) (fun c6 => ?_)
        · have hW := hW.1 c6
          refine pq_w [] trivial ?_
          exact J97 N (by omega) s1 s1v hW
        · have hW := hW.2 c6
          refine pq_l (pc' := 26) rfl rfl rfl rfl rfl ?_
          refine pq_k (pc' := 28) (v := (0, 91)) rfl rfl rfl (fun _ => rfl) ?_
          refine pq_c_eq (pt := 97) (pc' := 31) rfl rfl rfl (fun c7 => ?_) (fun c7 => ?_)
          · have hW := hW.1 c7
            refine pq_w [] trivial ?_
            exact J97 N (by omega) s1 s1v hW
          · have hW := hW.2 c7
            refine pq_l (pc' := 32) rfl rfl rfl rfl rfl ?_
            refine pq_k (pc' := 34) (v := (0, 93)) rfl rfl rfl (fun _ => rfl) ?_
            refine pq_c_eq (pt := 97) (pc' := 37) rfl rfl rfl (fun c8 => ?_) (fun c8 => ?_)
            · have hW := hW.1 c8
              refine pq_w [] trivial ?_
              exact J97 N (by omega) s1 s1v hW
            · have hW := hW.2 c8
              refine pq_l (pc' := 38) rfl rfl rfl rfl rfl ?_
              refine pq_k (pc' := 40) (v := (0, 61)) rfl rfl rfl (fun _ => rfl) ?_
              refine pq_c_eq (pt := 97) (pc' := 43) rfl rfl rfl (fun c9 => ?_) (fun c9 => ?_)
              · have hW := hW.1 c9
                refine pq_w [] trivial ?_
                exact J97 N (by omega) s1 s1v hW
              · have hW := hW.2 c9
                refine pq_l (pc' := 44) rfl rfl rfl rfl rfl ?_
                refine pq_k (pc' := 46) (v := (0, 60)) rfl rfl rfl (fun _ => rfl) ?_
                refine pq_c_eq (pt := 97) (pc' := 49) rfl rfl rfl (fun c10 => ?_) (fun c10 => ?_)
                · have hW := hW.1 c10
                  refine pq_w [] trivial ?_
                  exact J97 N (by omega) s1 s1v hW
                · have hW := hW.2 c10
                  refine pq_l (pc' := 50) rfl rfl rfl rfl rfl ?_
                  refine pq_k (pc' := 52) (v := (0, 62)) rfl rfl rfl (fun _ => rfl) ?_
                  refine pq_c_eq (pt := 97) (pc' := 55) rfl rfl rfl (fun c11 => ?_) (fun c11 => ?_)
                  · have hW := hW.1 c11
                    refine pq_w [] trivial ?_
                    exact J97 N (by omega) s1 s1v hW
                  · have hW := hW.2 c11
                    refine pq_l (pc' := 56) rfl rfl rfl rfl rfl ?_
                    refine pq_k (pc' := 58) (v := (0, 45)) rfl rfl rfl (fun _ => rfl) ?_
                    have J213 : ∀ v212 : Int, iR v212 → ((C_isToken10_102 v212 s1 Q)) → pq L ys d N rm_p_X10_isToken (102, [], [(0, v212)], s1) (fun r : im_Re => ∃ z, r.1 = some (0, z) ∧ (jR r.2 ∧ iR z ∧ Q z r.2)) := by
                      intro v212 v212r hW
                      refine pq_w [] trivial ?_
                      exact J102 N (by omega) v212 v212r s1 s1v hW
                    refine pq_c_eq (pt := 97) (pc' := 61) rfl rfl rfl (fun c12 => ?_) (fun c12 => ?_)
                    · refine pq_k (pc' := 98) (v := (0, 1)) rfl rfl rfl (fun _ => rfl) ?_
                      refine pq_goto (pc' := 102) rfl rfl ?_
                      refine pq_w [] trivial ?_
                      exact J213 1 (⟨by decide, by decide⟩ : iR 1) (hW _ (by rw [if_pos c12]))
                    · refine pq_l (pc' := 62) rfl rfl rfl rfl rfl ?_
                      refine pq_k (pc' := 64) (v := (0, 43)) rfl rfl rfl (fun _ => rfl) ?_
                      refine pq_c_eq (pt := 97) (pc' := 67) rfl rfl rfl (fun c13 => ?_) (fun c13 => ?_)
                      · refine pq_k (pc' := 98) (v := (0, 1)) rfl rfl rfl (fun _ => rfl) ?_
                        refine pq_goto (pc' := 102) rfl rfl ?_
                        refine pq_w [] trivial ?_
                        exact J213 1 (⟨by decide, by decide⟩ : iR 1) (hW _ (by rw [if_neg (fun z => c12 z), if_pos c13]))
                      · refine pq_l (pc' := 68) rfl rfl rfl rfl rfl ?_
                        refine pq_k (pc' := 70) (v := (0, 42)) rfl rfl rfl (fun _ => rfl) ?_
                        refine pq_c_eq (pt := 97) (pc' := 73) rfl rfl rfl (fun c14 => ?_) (fun c14 => ?_)
                        · refine pq_k (pc' := 98) (v := (0, 1)) rfl rfl rfl (fun _ => rfl) ?_
                          refine pq_goto (pc' := 102) rfl rfl ?_
                          refine pq_w [] trivial ?_
                          exact J213 1 (⟨by decide, by decide⟩ : iR 1) (hW _ (by rw [if_neg (fun z => c12 z), if_neg (fun z => c13 z), if_pos c14]))
                        · refine pq_l (pc' := 74) rfl rfl rfl rfl rfl ?_
                          refine pq_k (pc' := 76) (v := (0, 94)) rfl rfl rfl (fun _ => rfl) ?_
                          refine pq_c_eq (pt := 97) (pc' := 79) rfl rfl rfl (fun c15 => ?_) (fun c15 => ?_)
                          · refine pq_k (pc' := 98) (v := (0, 1)) rfl rfl rfl (fun _ => rfl) ?_
                            refine pq_goto (pc' := 102) rfl rfl ?_
                            refine pq_w [] trivial ?_
                            exact J213 1 (⟨by decide, by decide⟩ : iR 1) (hW _ (by rw [if_neg (fun z => c12 z), if_neg (fun z => c13 z), if_neg (fun z => c14 z), if_pos c15]))
                          · refine pq_l (pc' := 80) rfl rfl rfl rfl rfl ?_
                            refine pq_k (pc' := 82) (v := (0, 120)) rfl rfl rfl (fun _ => rfl) ?_
                            refine pq_c_eq (pt := 97) (pc' := 85) rfl rfl rfl (fun c16 => ?_) (fun c16 => ?_)
                            · refine pq_k (pc' := 98) (v := (0, 1)) rfl rfl rfl (fun _ => rfl) ?_
                              refine pq_goto (pc' := 102) rfl rfl ?_
                              refine pq_w [] trivial ?_
                              exact J213 1 (⟨by decide, by decide⟩ : iR 1) (hW _ (by rw [if_neg (fun z => c12 z), if_neg (fun z => c13 z), if_neg (fun z => c14 z), if_neg (fun z => c15 z), if_pos c16]))
                            · refine pq_l (pc' := 86) rfl rfl rfl rfl rfl ?_
                              refine pq_k (pc' := 88) (v := (0, 40)) rfl rfl rfl (fun _ => rfl) ?_
                              refine pq_c_eq (pt := 97) (pc' := 91) rfl rfl rfl (fun c17 => ?_) (fun c17 => ?_)
                              · refine pq_k (pc' := 98) (v := (0, 1)) rfl rfl rfl (fun _ => rfl) ?_
                                refine pq_goto (pc' := 102) rfl rfl ?_
                                refine pq_w [] trivial ?_
                                exact J213 1 (⟨by decide, by decide⟩ : iR 1) (hW _ (by rw [if_neg (fun z => c12 z), if_neg (fun z => c13 z), if_neg (fun z => c14 z), if_neg (fun z => c15 z), if_neg (fun z => c16 z), if_pos c17]))
                              · refine pq_l (pc' := 92) rfl rfl rfl rfl rfl ?_
                                refine pq_k (pc' := 94) (v := (0, 41)) rfl rfl rfl (fun _ => rfl) ?_
                                refine pq_c_ne (pt := 101) (pc' := 97) rfl rfl rfl (fun c18 => ?_) (fun c18 => ?_)
                                · refine pq_k (pc' := 102) (v := (0, 0)) rfl rfl rfl (fun _ => rfl) ?_
                                  refine pq_w [] trivial ?_
                                  exact J213 0 (⟨by decide, by decide⟩ : iR 0) (hW _ (by rw [if_neg (fun z => c12 z), if_neg (fun z => c13 z), if_neg (fun z => c14 z), if_neg (fun z => c15 z), if_neg (fun z => c16 z), if_neg (fun z => c17 z), if_pos c18]))
                                · refine pq_k (pc' := 98) (v := (0, 1)) rfl rfl rfl (fun _ => rfl) ?_
                                  refine pq_goto (pc' := 102) rfl rfl ?_
                                  refine pq_w [] trivial ?_
                                  exact J213 1 (⟨by decide, by decide⟩ : iR 1) (hW _ (by rw [if_neg (fun z => c12 z), if_neg (fun z => c13 z), if_neg (fun z => c14 z), if_neg (fun z => c15 z), if_neg (fun z => c16 z), if_neg (fun z => c17 z), if_neg (by omega)]))
def C_cannot10_23 (k1 : Int) (s : im_S) (Q : im_S → Prop) : Prop := (C_fail10 k1 (cgf s 582 4) s (fun s2 => (Q s2)))
def C_cannot10 (s : im_S) (Q : im_S → Prop) : Prop := (C_peek10 s (fun z5 s4 => ((z5 = (-1) → (C_cannot10_23 2 s4 Q)) ∧ (¬ (z5 = (-1)) → (C_isToken10 z5 s4 (fun z8 s7 => (∀ v209 : Int, v209 = (if z8 = 0 then 1 else 2) → (C_cannot10_23 v209 s7 Q))))))))
set_option maxRecDepth 16384 in
theorem c_cannot10 (L : Nat) (ys : Nat → Int32) (d : Nat) (s : im_S) (hv : jR s) (Q : im_S → Prop) (hW : C_cannot10 s Q) : pcV L ys d 14 [(2, ((582 : Nat) : Int))] s (fun s9 => jR s9 ∧ Q s9) := by
  intro res hres
  refine pq_start (M := rm_p_X10_cannot) (Q := (fun r : im_Re => r.1 = none ∧ (jR r.2 ∧ Q r.2))) om_X10_cannot (fun d N => ?_) res hres
  refine pq_w [(0, (2, ((582 : Nat) : Int)))] ⟨rfl, trivial⟩ ?_
  have J23 : ∀ N23 : Nat, N23 ≤ N → ∀ (k1 : Int) (k1r : iR k1) (s : im_S) (hv : jR s), C_cannot10_23 k1 s Q → pq L ys d N23 rm_p_X10_cannot (23, [(0, (2, ((582 : Nat) : Int)))], [(0, k1), (2, ((582 : Nat) : Int))], s) (fun r : im_Re => r.1 = none ∧ (jR r.2 ∧ Q r.2)) := by
    intro N23 hN23 k1 k1r s hv hW
    unfold C_cannot10_23 at hW
    refine pq_l (pc' := 24) rfl rfl rfl rfl rfl ?_
    refine pq_gi (pc' := 27) rfl rfl rfl rfl rfl (fun r1 => ?_)
    refine pq_cVV (pc' := 30) rfl rfl rfl rfl rfl (c_fail10 L ys d s hv k1 k1r (cgf s 582 4) r1 _ hW) (fun s2 hr => ?_)
    obtain ⟨s2v, hW⟩ := hr
    exact pq_vret rfl ⟨rfl, s2v, hW⟩
  unfold C_cannot10 at hW
  refine pq_l (pc' := 1) rfl rfl rfl rfl rfl ?_
  refine pq_cVI (pc' := 4) rfl rfl rfl rfl rfl (c_peek10 L ys d s hv  _ hW) (fun z5 s4 hr => ?_)
  obtain ⟨s4v, z5r, hW⟩ := hr
  refine pq_s (pc' := 5) rfl rfl rfl rfl rfl ?_
  refine pq_l (pc' := 6) rfl rfl rfl rfl rfl ?_
  refine pq_l (pc' := 7) rfl rfl rfl rfl rfl ?_
  refine pq_k (pc' := 8) (v := (0, (-1))) rfl rfl rfl (fun _ => rfl) ?_
  refine pq_c_eq (pt := 18) (pc' := 11) rfl rfl rfl (fun c6 => ?_) (fun c6 => ?_)
  · have hW := hW.1 c6
    refine pq_k (pc' := 19) (v := (0, 2)) rfl rfl rfl (fun _ => rfl) ?_
    refine pq_goto (pc' := 23) rfl rfl ?_
    refine pq_w [(0, (2, ((582 : Nat) : Int)))] ⟨rfl, trivial⟩ ?_
    exact J23 N (by omega) 2 (⟨by decide, by decide⟩ : iR 2) s4 s4v hW
  · have hW := hW.2 c6
    refine pq_l (pc' := 12) rfl rfl rfl rfl rfl ?_
    refine pq_cSI (pc' := 15) rfl rfl rfl rfl rfl (c_isToken10 L ys d s4 s4v z5 z5r _ hW) (fun z8 s7 hr => ?_)
    obtain ⟨s7v, z8r, hW⟩ := hr
    have J210 : ∀ v209 : Int, iR v209 → ((C_cannot10_23 v209 s7 Q)) → pq L ys d N rm_p_X10_cannot (23, [(0, (2, ((582 : Nat) : Int)))], [(0, v209), (2, ((582 : Nat) : Int))], s7) (fun r : im_Re => r.1 = none ∧ (jR r.2 ∧ Q r.2)) := by
      intro v209 v209r hW
      refine pq_w [(0, (2, ((582 : Nat) : Int)))] ⟨rfl, trivial⟩ ?_
      exact J23 N (by omega) v209 v209r s7 s7v hW
    refine pq_z_eq (pt := 22) (pc' := 18) rfl rfl rfl (fun c9 => ?_) (fun c9 => ?_)
    · refine pq_k (pc' := 23) (v := (0, 1)) rfl rfl rfl (fun _ => rfl) ?_
      refine pq_w [(0, (2, ((582 : Nat) : Int)))] ⟨rfl, trivial⟩ ?_
      exact J210 1 (⟨by decide, by decide⟩ : iR 1) (hW _ (by rw [if_pos c9]))
    · refine pq_k (pc' := 19) (v := (0, 2)) rfl rfl rfl (fun _ => rfl) ?_
      refine pq_goto (pc' := 23) rfl rfl ?_
      refine pq_w [(0, (2, ((582 : Nat) : Int)))] ⟨rfl, trivial⟩ ?_
      exact J210 2 (⟨by decide, by decide⟩ : iR 2) (hW _ (by rw [if_neg (fun z => c9 z)]))
def C_number10_89 (l1 : Int) (s : im_S) (Q : Int → im_S → Prop) : Prop := (Q l1 s)
def C_number10_4 (K4 : Int × Int × im_S → Prop) (l1 : Int) (l2 : Int) (s : im_S) (Q : Int → im_S → Prop) : Prop := (((cgf s 582 1) ≤ (cgf s 582 4) → (C_number10_89 l1 s Q)) ∧ (¬ ((cgf s 582 1) ≤ (cgf s 582 4)) → (caI s 583 (cgf s 582 4) → (C_isDigit10 (cga s 583 (cgf s 582 4)) s (fun z7 s6 => ((z7 = 0 → (C_number10_89 l1 s6 Q)) ∧ (¬ (z7 = 0) → (C_good10 s6 (fun z10 s9 => ((z10 = 0 → (C_number10_89 l1 s9 Q)) ∧ (¬ (z10 = 0) → ((¬ ((w32 (l2 + 1)) = 7) → (caI s9 583 (cgf s9 582 4) → (∀ s16, s16 = cpf s9 582 4 (w32 ((cgf s9 582 4) + 1)) → (K4 ((w32 ((w32 ((w32 (10 * l1)) + (cga s9 583 (cgf s9 582 4)))) - 48)), (w32 (l2 + 1)), s16))))) ∧ ((w32 (l2 + 1)) = 7 → (C_fail10 1 (cgf s9 582 4) s9 (fun s19 => (K4 (l1, (w32 (l2 + 1)), s19)))))))))))))))))
def C_number10 (s : im_S) (Q : Int → im_S → Prop) : Prop := (ploop (fun (K : Int × Int × im_S → Prop) (a : Int × Int × im_S) => C_number10_4 K a.1 a.2.1 a.2.2 Q) (0, 0, s))
set_option maxRecDepth 16384 in
theorem c_number10 (L : Nat) (ys : Nat → Int32) (d : Nat) (s : im_S) (hv : jR s) (Q : Int → im_S → Prop) (hW : C_number10 s Q) : pcI L ys 0 d 73 [(2, ((582 : Nat) : Int))] s (fun z9 s9 => jR s9 ∧ iR z9 ∧ Q z9 s9) := by
  intro res hres
  refine pq_start (M := rm_p_X10_number) (Q := (fun r : im_Re => ∃ z, r.1 = some (0, z) ∧ (jR r.2 ∧ iR z ∧ Q z r.2))) om_X10_number (fun d N => ?_) res hres
  refine pq_w [(0, (2, ((582 : Nat) : Int)))] ⟨rfl, trivial⟩ ?_
  have J89 : ∀ N89 : Nat, N89 ≤ N → ∀ (l1 : Int) (l1r : iR l1) (s : im_S) (hv : jR s), C_number10_89 l1 s Q → pq L ys d N89 rm_p_X10_number (89, [(1, (0, l1))], [], s) (fun r : im_Re => ∃ z, r.1 = some (0, z) ∧ (jR r.2 ∧ iR z ∧ Q z r.2)) := by
    intro N89 hN89 l1 l1r s hv hW
    unfold C_number10_89 at hW
    refine pq_l (pc' := 90) rfl rfl rfl rfl rfl ?_
    exact pq_iret rfl ⟨_, rfl, hv, l1r, hW⟩
  have J4 : ∀ (I4 : Int × Int × im_S → Prop) (hB4 : ∀ a : Int × Int × im_S, I4 a → C_number10_4 I4 a.1 a.2.1 a.2.2 Q), ∀ N4 : Nat, N4 ≤ N → ∀ (l1 : Int) (l1r : iR l1) (l2 : Int) (l2r : iR l2) (s : im_S) (hv : jR s), I4 (l1, l2, s) → pq L ys d N4 rm_p_X10_number (4, [(0, (2, ((582 : Nat) : Int))), (1, (0, l1)), (2, (0, l2))], [], s) (fun r : im_Re => ∃ z, r.1 = some (0, z) ∧ (jR r.2 ∧ iR z ∧ Q z r.2)) := by
    intro I4 hB4 N4
    induction N4 using Nat.strongRecOn with
    | _ N4 ih4 =>
      intro hN4 l1 l1r l2 l2r s hv hI
      have hW : C_number10_4 I4 l1 l2 s Q := hB4 (l1, l2, s) hI
      unfold C_number10_4 at hW
      refine pq_l (pc' := 5) rfl rfl rfl rfl rfl ?_
      refine pq_gi (pc' := 8) rfl rfl rfl rfl rfl (fun r1 => ?_)
      refine pq_l (pc' := 9) rfl rfl rfl rfl rfl ?_
      refine pq_gi (pc' := 12) rfl rfl rfl rfl rfl (fun r2 => ?_)
      refine pq_c_ge (pt := 89) (pc' := 15) rfl rfl rfl (fun c3 => ?_) (fun c3 => ?_)
      · have hW := hW.1 c3
        refine pq_w [(1, (0, l1))] ⟨rfl, trivial⟩ ?_
        exact J89 N4 (by omega) l1 l1r s hv hW
      · have hW := hW.2 c3
        refine pq_l (pc' := 16) rfl rfl rfl rfl rfl ?_
        refine pr_gr (pc' := 19) (v := 583) rfl rfl rfl rfl rfl hv ?_
        refine pq_l (pc' := 20) rfl rfl rfl rfl rfl ?_
        refine pq_gi (pc' := 23) rfl rfl rfl rfl rfl (fun r4 => ?_)
        refine pq_ia (pc' := 24) rfl rfl (fun r5a r5b r5 => ?_)
        have hW := hW ⟨⟨r5a, r5b⟩, r5⟩
        refine pq_cSI (pc' := 27) rfl rfl rfl rfl rfl (c_isDigit10 L ys d s hv (cga s 583 (cgf s 582 4)) r5 _ hW) (fun z7 s6 hr => ?_)
        obtain ⟨s6v, z7r, hW⟩ := hr
        refine pq_z_eq (pt := 89) (pc' := 30) rfl rfl rfl (fun c8 => ?_) (fun c8 => ?_)
        · have hW := hW.1 c8
          refine pq_w [(1, (0, l1))] ⟨rfl, trivial⟩ ?_
          exact J89 N4 (by omega) l1 l1r s6 s6v hW
        · have hW := hW.2 c8
          refine pq_l (pc' := 31) rfl rfl rfl rfl rfl ?_
          refine pq_cVI (pc' := 34) rfl rfl rfl rfl rfl (c_good10 L ys d s6 s6v  _ hW) (fun z10 s9 hr => ?_)
          obtain ⟨s9v, z10r, hW⟩ := hr
          refine pq_z_eq (pt := 89) (pc' := 37) rfl rfl rfl (fun c11 => ?_) (fun c11 => ?_)
          · have hW := hW.1 c11
            refine pq_w [(1, (0, l1))] ⟨rfl, trivial⟩ ?_
            exact J89 N4 (by omega) l1 l1r s9 s9v hW
          · have hW := hW.2 c11
            refine pq_inc (pc' := 40) rfl rfl rfl rfl ?_
            refine pq_l (pc' := 41) rfl rfl rfl rfl rfl ?_
            refine pq_k (pc' := 43) (v := (0, 7)) rfl rfl rfl (fun _ => rfl) ?_
            refine pq_c_ne (pt := 58) (pc' := 46) rfl rfl rfl (fun c12 => ?_) (fun c12 => ?_)
            · have hW := hW.1 c12
              refine pq_k (pc' := 60) (v := (0, 10)) rfl rfl rfl (fun _ => rfl) ?_
              refine pq_l (pc' := 61) rfl rfl rfl rfl rfl ?_
              refine pq_mul (pc' := 62) rfl rfl ?_
              refine pq_l (pc' := 63) rfl rfl rfl rfl rfl ?_
              refine pr_gr (pc' := 66) (v := 583) rfl rfl rfl rfl rfl s9v ?_
              refine pq_l (pc' := 67) rfl rfl rfl rfl rfl ?_
              refine pq_gi (pc' := 70) rfl rfl rfl rfl rfl (fun r13 => ?_)
              refine pq_ia (pc' := 71) rfl rfl (fun r14a r14b r14 => ?_)
              have hW := hW ⟨⟨r14a, r14b⟩, r14⟩
              refine pq_add (pc' := 72) rfl rfl ?_
              refine pq_k (pc' := 74) (v := (0, 48)) rfl rfl rfl (fun _ => rfl) ?_
              refine pq_sub (pc' := 75) rfl rfl ?_
              refine pq_s (pc' := 76) rfl rfl rfl rfl rfl ?_
              refine pq_l (pc' := 77) rfl rfl rfl rfl rfl ?_
              refine pq_x (pc' := 78) rfl rfl rfl (fun _ => rfl) ?_
              refine pq_gi (pc' := 81) rfl rfl rfl rfl rfl (fun r15 => ?_)
              refine pq_k (pc' := 82) (v := (0, 1)) rfl rfl rfl (fun _ => rfl) ?_
              refine pq_add (pc' := 83) rfl rfl ?_
              refine pr_pX (pc' := 86) rfl rfl rfl rfl s9v (fun s16 s16e s16v => ?_)
              have hW := hW s16 s16e
              refine pq_gotoT (pc' := 4) rfl rfl (fun m17 m17l => ?_)
              refine pq_w [(0, (2, ((582 : Nat) : Int))), (1, (0, (w32 ((w32 ((w32 (10 * l1)) + (cga s9 583 (cgf s9 582 4)))) - 48)))), (2, (0, (w32 (l2 + 1))))] ⟨rfl, rfl, rfl, trivial⟩ ?_
              exact ih4 m17 (by omega) (by omega) (w32 ((w32 ((w32 (10 * l1)) + (cga s9 583 (cgf s9 582 4)))) - 48)) (w32_r _) (w32 (l2 + 1)) (w32_r _) s16 s16v hW
            · have hW := hW.2 c12
              refine pq_l (pc' := 47) rfl rfl rfl rfl rfl ?_
              refine pq_k (pc' := 48) (v := (0, 1)) rfl rfl rfl (fun _ => rfl) ?_
              refine pq_l (pc' := 49) rfl rfl rfl rfl rfl ?_
              refine pq_gi (pc' := 52) rfl rfl rfl rfl rfl (fun r18 => ?_)
              refine pq_cVV (pc' := 55) rfl rfl rfl rfl rfl (c_fail10 L ys d s9 s9v 1 (⟨by decide, by decide⟩ : iR 1) (cgf s9 582 4) r18 _ hW) (fun s19 hr => ?_)
              obtain ⟨s19v, hW⟩ := hr
              refine pq_gotoT (pc' := 4) rfl rfl (fun m21 m21l => ?_)
              refine pq_w [(0, (2, ((582 : Nat) : Int))), (1, (0, l1)), (2, (0, (w32 (l2 + 1))))] ⟨rfl, rfl, rfl, trivial⟩ ?_
              exact ih4 m21 (by omega) (by omega) l1 l1r (w32 (l2 + 1)) (w32_r _) s19 s19v hW
  unfold C_number10 at hW
  refine pq_k (pc' := 1) (v := (0, 0)) rfl rfl rfl (fun _ => rfl) ?_
  refine pq_s (pc' := 2) rfl rfl rfl rfl rfl ?_
  refine pq_k (pc' := 3) (v := (0, 0)) rfl rfl rfl (fun _ => rfl) ?_
  refine pq_s (pc' := 4) rfl rfl rfl rfl rfl ?_
  refine pq_w [(0, (2, ((582 : Nat) : Int))), (1, (0, 0)), (2, (0, 0))] ⟨rfl, rfl, rfl, trivial⟩ ?_
  obtain ⟨I9, hI9, hB9⟩ := hW
  exact J4 I9 hB9 N (by omega) 0 (⟨by decide, by decide⟩ : iR 0) 0 (⟨by decide, by decide⟩ : iR 0) s hv hI9
def C_look10_26 (s : im_S) (Q : im_S → Prop) : Prop := (Q s)
def C_look10 (s : im_S) (Q : im_S → Prop) : Prop := (C_peek10 s (fun z2 s1 => ((z2 = (-1) → (C_look10_26 s1 Q)) ∧ (¬ (z2 = (-1)) → (C_isToken10 z2 s1 (fun z5 s4 => ((¬ (z5 = 0) → (C_look10_26 s4 Q)) ∧ (z5 = 0 → (C_fail10 1 (cgf s4 582 4) s4 (fun s8 => (C_look10_26 s8 Q)))))))))))
set_option maxRecDepth 16384 in
theorem c_look10 (L : Nat) (ys : Nat → Int32) (d : Nat) (s : im_S) (hv : jR s) (Q : im_S → Prop) (hW : C_look10 s Q) : pcV L ys d 66 [(2, ((582 : Nat) : Int))] s (fun s9 => jR s9 ∧ Q s9) := by
  intro res hres
  refine pq_start (M := rm_p_X10_look) (Q := (fun r : im_Re => r.1 = none ∧ (jR r.2 ∧ Q r.2))) om_X10_look (fun d N => ?_) res hres
  refine pq_w [(0, (2, ((582 : Nat) : Int)))] ⟨rfl, trivial⟩ ?_
  have J26 : ∀ N26 : Nat, N26 ≤ N → ∀ (s : im_S) (hv : jR s), C_look10_26 s Q → pq L ys d N26 rm_p_X10_look (26, [], [], s) (fun r : im_Re => r.1 = none ∧ (jR r.2 ∧ Q r.2)) := by
    intro N26 hN26 s hv hW
    unfold C_look10_26 at hW
    exact pq_vret rfl ⟨rfl, hv, hW⟩
  unfold C_look10 at hW
  refine pq_l (pc' := 1) rfl rfl rfl rfl rfl ?_
  refine pq_cVI (pc' := 4) rfl rfl rfl rfl rfl (c_peek10 L ys d s hv  _ hW) (fun z2 s1 hr => ?_)
  obtain ⟨s1v, z2r, hW⟩ := hr
  refine pq_s (pc' := 5) rfl rfl rfl rfl rfl ?_
  refine pq_l (pc' := 6) rfl rfl rfl rfl rfl ?_
  refine pq_k (pc' := 7) (v := (0, (-1))) rfl rfl rfl (fun _ => rfl) ?_
  refine pq_c_eq (pt := 26) (pc' := 10) rfl rfl rfl (fun c3 => ?_) (fun c3 => ?_)
  · have hW := hW.1 c3
    refine pq_w [] trivial ?_
    exact J26 N (by omega) s1 s1v hW
  · have hW := hW.2 c3
    refine pq_l (pc' := 11) rfl rfl rfl rfl rfl ?_
    refine pq_cSI (pc' := 14) rfl rfl rfl rfl rfl (c_isToken10 L ys d s1 s1v z2 z2r _ hW) (fun z5 s4 hr => ?_)
    obtain ⟨s4v, z5r, hW⟩ := hr
    refine pq_z_ne (pt := 26) (pc' := 17) rfl rfl rfl (fun c6 => ?_) (fun c6 => ?_)
    · have hW := hW.1 c6
      refine pq_w [] trivial ?_
      exact J26 N (by omega) s4 s4v hW
    · have hW := hW.2 c6
      refine pq_l (pc' := 18) rfl rfl rfl rfl rfl ?_
      refine pq_k (pc' := 19) (v := (0, 1)) rfl rfl rfl (fun _ => rfl) ?_
      refine pq_l (pc' := 20) rfl rfl rfl rfl rfl ?_
      refine pq_gi (pc' := 23) rfl rfl rfl rfl rfl (fun r7 => ?_)
      refine pq_cVV (pc' := 26) rfl rfl rfl rfl rfl (c_fail10 L ys d s4 s4v 1 (⟨by decide, by decide⟩ : iR 1) (cgf s4 582 4) r7 _ hW) (fun s8 hr => ?_)
      obtain ⟨s8v, hW⟩ := hr
      refine pq_w [] trivial ?_
      exact J26 N (by omega) s8 s8v hW
def C_isFine10 (l1 : Int) (s : im_S) (Q : Int → im_S → Prop) : Prop := (∀ v202 : Int, v202 = (if l1 < (-1000000000) then 0 else (if 1000000000 < l1 then 0 else 1)) → (Q v202 s))
set_option maxRecDepth 16384 in
theorem c_isFine10 (L : Nat) (ys : Nat → Int32) (d : Nat) (s : im_S) (hv : jR s) (l1 : Int) (l1r : lR l1) (Q : Int → im_S → Prop) (hW : C_isFine10 l1 s Q) : pcI L ys 0 d 53 [(2, ((582 : Nat) : Int)), (1, l1)] s (fun z9 s9 => jR s9 ∧ iR z9 ∧ Q z9 s9) := by
  intro res hres
  refine pq_start (M := rm_p_X10_isFine) (Q := (fun r : im_Re => ∃ z, r.1 = some (0, z) ∧ (jR r.2 ∧ iR z ∧ Q z r.2))) om_X10_isFine (fun d N => ?_) res hres
  refine pq_w [(0, (2, ((582 : Nat) : Int))), (1, (1, l1))] ⟨rfl, rfl, trivial⟩ ?_
  unfold C_isFine10 at hW
  refine pq_l (pc' := 1) rfl rfl rfl rfl rfl ?_
  refine pq_k (pc' := 4) (v := (1, (-1000000000))) rfl rfl rfl (fun _ => rfl) ?_
  refine pq_lcmp (pc' := 5) rfl rfl l1r (⟨by decide, by decide⟩ : lR (-1000000000)) (fun z1 z1c => ?_)
  have J203 : ∀ v202 : Int, iR v202 → ((Q v202 s)) → pq L ys d N rm_p_X10_isFine (21, [], [(0, v202)], s) (fun r : im_Re => ∃ z, r.1 = some (0, z) ∧ (jR r.2 ∧ iR z ∧ Q z r.2)) := by
    intro v202 v202r hW
    exact pq_iret rfl ⟨_, rfl, hv, v202r, hW⟩
  refine pq_z_lt (pt := 20) (pc' := 8) rfl rfl rfl (fun c2 => ?_) (fun c2 => ?_)
  · have c2 : l1 < (-1000000000) := by omega
    refine pq_k (pc' := 21) (v := (0, 0)) rfl rfl rfl (fun _ => rfl) ?_
    refine pq_w [] trivial ?_
    exact J203 0 (⟨by decide, by decide⟩ : iR 0) (hW _ (by rw [if_pos c2]))
  · have c2 : ¬ (l1 < (-1000000000)) := by omega
    refine pq_l (pc' := 9) rfl rfl rfl rfl rfl ?_
    refine pq_k (pc' := 12) (v := (1, 1000000000)) rfl rfl rfl (fun _ => rfl) ?_
    refine pq_lcmp (pc' := 13) rfl rfl l1r (⟨by decide, by decide⟩ : lR 1000000000) (fun z3 z3c => ?_)
    refine pq_z_gt (pt := 20) (pc' := 16) rfl rfl rfl (fun c4 => ?_) (fun c4 => ?_)
    · have c4 : 1000000000 < l1 := by omega
      refine pq_k (pc' := 21) (v := (0, 0)) rfl rfl rfl (fun _ => rfl) ?_
      refine pq_w [] trivial ?_
      exact J203 0 (⟨by decide, by decide⟩ : iR 0) (hW _ (by rw [if_neg (fun z => c2 z), if_pos c4]))
    · have c4 : ¬ (1000000000 < l1) := by omega
      refine pq_k (pc' := 17) (v := (0, 1)) rfl rfl rfl (fun _ => rfl) ?_
      refine pq_goto (pc' := 21) rfl rfl ?_
      refine pq_w [] trivial ?_
      exact J203 1 (⟨by decide, by decide⟩ : iR 1) (hW _ (by rw [if_neg (fun z => c2 z), if_neg (fun z => c4 z)]))
def C_multiply10_202 (s : im_S) (Q : im_S → Prop) : Prop := (Q s)
def C_multiply10_176 (K144 : Int × im_S → Prop) (l1 : Int) (l2 : Int) (s : im_S) (Q : im_S → Prop) : Prop := (caJ s 592 l2 → ((0 ≤ (w32 ((w32 (9 * (cgf s 582 21))) + l2)) ∧ (w32 ((w32 (9 * (cgf s 582 21))) + l2)) < gln 590) → ∀ s3, s3 = cpa s 590 (w32 ((w32 (9 * (cgf s 582 21))) + l2)) (cga s 592 l2) → (K144 ((w32 (l2 + 1)), s3))))
def C_multiply10_144 (K144 : Int × im_S → Prop) (l1 : Int) (l2 : Int) (s : im_S) (Q : im_S → Prop) : Prop := ((9 ≤ l2 → (C_multiply10_202 s Q)) ∧ (¬ (9 ≤ l2) → (C_good10 s (fun z7 s6 => ((z7 = 0 → (C_multiply10_202 s6 Q)) ∧ (¬ (z7 = 0) → (caJ s6 592 l2 → (C_isFine10 (cga s6 592 l2) s6 (fun z11 s10 => ((¬ (z11 = 0) → (C_multiply10_176 K144 l1 l2 s10 Q)) ∧ (z11 = 0 → (C_fail10 3 l1 s10 (fun s13 => (C_multiply10_176 K144 l1 l2 s13 Q))))))))))))))
def C_multiply10_130 (K23 : Int × im_S → Prop) (K31 : Int × im_S → Prop) (l1 : Int) (l2 : Int) (l3 : Int) (s : im_S) (Q : im_S → Prop) : Prop := (K31 ((w32 (l3 + 1)), s))
def C_multiply10_100 (K23 : Int × im_S → Prop) (K31 : Int × im_S → Prop) (l1 : Int) (l2 : Int) (l3 : Int) (l4 : Int) (l6 : Int) (s : im_S) (Q : im_S → Prop) : Prop := ((l4 = 0 → (C_multiply10_130 K23 K31 l1 l2 l3 s Q)) ∧ (¬ (l4 = 0) → ((l6 = 0 → (C_multiply10_130 K23 K31 l1 l2 l3 s Q)) ∧ (¬ (l6 = 0) → (caJ s 592 (w32 (l2 + l3)) → ((0 ≤ (w32 (l2 + l3)) ∧ (w32 (l2 + l3)) < gln 592) → ∀ s21, s21 = cpa s 592 (w32 (l2 + l3)) (w64 ((cga s 592 (w32 (l2 + l3))) + (w64 (l4 * l6)))) → (C_multiply10_130 K23 K31 l1 l2 l3 s21 Q)))))))
def C_multiply10_31 (K23 : Int × im_S → Prop) (K31 : Int × im_S → Prop) (l1 : Int) (l2 : Int) (l3 : Int) (s : im_S) (Q : im_S → Prop) : Prop := ((9 ≤ l3 → (K23 ((w32 (l2 + 1)), s))) ∧ (¬ (9 ≤ l3) → (caJ s 590 (w32 ((w32 (9 * (cgf s 582 21))) + l2)) → (caJ s 591 (w32 ((w32 (9 * (cgf s 582 21))) + l3)) → (((cga s 590 (w32 ((w32 (9 * (cgf s 582 21))) + l2))) = 0 → (C_multiply10_100 K23 K31 l1 l2 l3 (cga s 590 (w32 ((w32 (9 * (cgf s 582 21))) + l2))) (cga s 591 (w32 ((w32 (9 * (cgf s 582 21))) + l3))) s Q)) ∧ (¬ ((cga s 590 (w32 ((w32 (9 * (cgf s 582 21))) + l2))) = 0) → (((cga s 591 (w32 ((w32 (9 * (cgf s 582 21))) + l3))) = 0 → (C_multiply10_100 K23 K31 l1 l2 l3 (cga s 590 (w32 ((w32 (9 * (cgf s 582 21))) + l2))) (cga s 591 (w32 ((w32 (9 * (cgf s 582 21))) + l3))) s Q)) ∧ (¬ ((cga s 591 (w32 ((w32 (9 * (cgf s 582 21))) + l3))) = 0) → (((w32 (l2 + l3)) < 9 → (C_multiply10_100 K23 K31 l1 l2 l3 (cga s 590 (w32 ((w32 (9 * (cgf s 582 21))) + l2))) (cga s 591 (w32 ((w32 (9 * (cgf s 582 21))) + l3))) s Q)) ∧ (¬ ((w32 (l2 + l3)) < 9) → (C_fail10 3 l1 s (fun s33 => (C_multiply10_130 K23 K31 l1 l2 l3 s33 Q)))))))))))))
def C_multiply10_23 (K23 : Int × im_S → Prop) (l1 : Int) (l2 : Int) (s : im_S) (Q : im_S → Prop) : Prop := ((9 ≤ l2 → (ploop (fun (K : Int × im_S → Prop) (a : Int × im_S) => C_multiply10_144 K l1 a.1 a.2 Q) (0, s))) ∧ (¬ (9 ≤ l2) → (ploop (fun (K : Int × im_S → Prop) (a : Int × im_S) => C_multiply10_31 K23 K l1 l2 a.1 a.2 Q) (0, s))))
def C_multiply10_2 (K2 : Int × im_S → Prop) (l1 : Int) (l2 : Int) (s : im_S) (Q : im_S → Prop) : Prop := ((9 ≤ l2 → (ploop (fun (K : Int × im_S → Prop) (a : Int × im_S) => C_multiply10_23 K l1 a.1 a.2 Q) (0, s))) ∧ (¬ (9 ≤ l2) → ((0 ≤ l2 ∧ l2 < gln 592) → ∀ s37, s37 = cpa s 592 l2 0 → (K2 ((w32 (l2 + 1)), s37)))))
def C_multiply10 (l1 : Int) (s : im_S) (Q : im_S → Prop) : Prop := (ploop (fun (K : Int × im_S → Prop) (a : Int × im_S) => C_multiply10_2 K l1 a.1 a.2 Q) (0, s))
set_option maxRecDepth 16384 in
theorem c_multiply10 (L : Nat) (ys : Nat → Int32) (d : Nat) (s : im_S) (hv : jR s) (l1 : Int) (l1r : iR l1) (Q : im_S → Prop) (hW : C_multiply10 l1 s Q) : pcV L ys d 71 [(2, ((582 : Nat) : Int)), (0, l1)] s (fun s9 => jR s9 ∧ Q s9) := by
  intro res hres
  refine pq_start (M := rm_p_X10_multiply) (Q := (fun r : im_Re => r.1 = none ∧ (jR r.2 ∧ Q r.2))) om_X10_multiply (fun d N => ?_) res hres
  refine pq_w [(0, (2, ((582 : Nat) : Int))), (1, (0, l1))] ⟨rfl, rfl, trivial⟩ ?_
  have J202 : ∀ N202 : Nat, N202 ≤ N → ∀ (s : im_S) (hv : jR s), C_multiply10_202 s Q → pq L ys d N202 rm_p_X10_multiply (202, [], [], s) (fun r : im_Re => r.1 = none ∧ (jR r.2 ∧ Q r.2)) := by
    intro N202 hN202 s hv hW
    unfold C_multiply10_202 at hW
    exact pq_vret rfl ⟨rfl, hv, hW⟩
  have J144 : ∀ (l1 : Int) (l1r : iR l1) (I144 : Int × im_S → Prop) (hB144 : ∀ a : Int × im_S, I144 a → C_multiply10_144 I144 l1 a.1 a.2 Q), ∀ N144 : Nat, N144 ≤ N → ∀ (l2 : Int) (l2r : iR l2) (s : im_S) (hv : jR s), I144 (l2, s) → pq L ys d N144 rm_p_X10_multiply (144, [(0, (2, ((582 : Nat) : Int))), (1, (0, l1)), (2, (0, l2))], [], s) (fun r : im_Re => r.1 = none ∧ (jR r.2 ∧ Q r.2)) := by
    intro l1 l1r I144 hB144 N144
    induction N144 using Nat.strongRecOn with
    | _ N144 ih144 =>
      intro hN144 l2 l2r s hv hI
      have hW : C_multiply10_144 I144 l1 l2 s Q := hB144 (l2, s) hI
      have J176 : ∀ N176 : Nat, N176 ≤ N144 → ∀ (l2 : Int) (l2r : iR l2) (s : im_S) (hv : jR s), C_multiply10_176 I144 l1 l2 s Q → pq L ys d N176 rm_p_X10_multiply (176, [(0, (2, ((582 : Nat) : Int))), (1, (0, l1)), (2, (0, l2))], [], s) (fun r : im_Re => r.1 = none ∧ (jR r.2 ∧ Q r.2)) := by
        intro N176 hN176 l2 l2r s hv hW
        unfold C_multiply10_176 at hW
        refine pq_l (pc' := 177) rfl rfl rfl rfl rfl ?_
        refine pr_gr (pc' := 180) (v := 590) rfl rfl rfl rfl rfl hv ?_
        refine pq_k (pc' := 182) (v := (0, 9)) rfl rfl rfl (fun _ => rfl) ?_
        refine pq_l (pc' := 183) rfl rfl rfl rfl rfl ?_
        refine pq_gi (pc' := 186) rfl rfl rfl rfl rfl (fun r1 => ?_)
        refine pq_mul (pc' := 187) rfl rfl ?_
        refine pq_l (pc' := 188) rfl rfl rfl rfl rfl ?_
        refine pq_add (pc' := 189) rfl rfl ?_
        refine pq_l (pc' := 190) rfl rfl rfl rfl rfl ?_
        refine pr_gr (pc' := 193) (v := 592) rfl rfl rfl rfl rfl hv ?_
        refine pq_l (pc' := 194) rfl rfl rfl rfl rfl ?_
        refine pq_la (pc' := 195) rfl rfl (fun r2a r2b r2 => ?_)
        have hW := hW ⟨⟨r2a, r2b⟩, r2⟩
        refine pr_ls (pc' := 196) rfl rfl hv (fun s3a s3b s3 s3e s3v => ?_)
        have hW := hW ⟨s3a, s3b⟩ s3 s3e
        refine pq_inc (pc' := 199) rfl rfl rfl rfl ?_
        refine pq_gotoT (pc' := 144) rfl rfl (fun m4 m4l => ?_)
        refine pq_w [(0, (2, ((582 : Nat) : Int))), (1, (0, l1)), (2, (0, (w32 (l2 + 1))))] ⟨rfl, rfl, rfl, trivial⟩ ?_
        exact ih144 m4 (by omega) (by omega) (w32 (l2 + 1)) (w32_r _) s3 s3v hW
      unfold C_multiply10_144 at hW
      refine pq_l (pc' := 145) rfl rfl rfl rfl rfl ?_
      refine pq_k (pc' := 147) (v := (0, 9)) rfl rfl rfl (fun _ => rfl) ?_
      refine pq_c_ge (pt := 202) (pc' := 150) rfl rfl rfl (fun c5 => ?_) (fun c5 => ?_)
      · have hW := hW.1 c5
        refine pq_w [] trivial ?_
        exact J202 N144 (by omega) s hv hW
      · have hW := hW.2 c5
        refine pq_l (pc' := 151) rfl rfl rfl rfl rfl ?_
        refine pq_cVI (pc' := 154) rfl rfl rfl rfl rfl (c_good10 L ys d s hv  _ hW) (fun z7 s6 hr => ?_)
        obtain ⟨s6v, z7r, hW⟩ := hr
        refine pq_z_eq (pt := 202) (pc' := 157) rfl rfl rfl (fun c8 => ?_) (fun c8 => ?_)
        · have hW := hW.1 c8
          refine pq_w [] trivial ?_
          exact J202 N144 (by omega) s6 s6v hW
        · have hW := hW.2 c8
          refine pq_l (pc' := 158) rfl rfl rfl rfl rfl ?_
          refine pq_l (pc' := 159) rfl rfl rfl rfl rfl ?_
          refine pr_gr (pc' := 162) (v := 592) rfl rfl rfl rfl rfl s6v ?_
          refine pq_l (pc' := 163) rfl rfl rfl rfl rfl ?_
          refine pq_la (pc' := 164) rfl rfl (fun r9a r9b r9 => ?_)
          have hW := hW ⟨⟨r9a, r9b⟩, r9⟩
          refine pq_cVI (pc' := 167) rfl rfl rfl rfl rfl (c_isFine10 L ys d s6 s6v (cga s6 592 l2) r9 _ hW) (fun z11 s10 hr => ?_)
          obtain ⟨s10v, z11r, hW⟩ := hr
          refine pq_z_ne (pt := 176) (pc' := 170) rfl rfl rfl (fun c12 => ?_) (fun c12 => ?_)
          · have hW := hW.1 c12
            refine pq_w [(0, (2, ((582 : Nat) : Int))), (1, (0, l1)), (2, (0, l2))] ⟨rfl, rfl, rfl, trivial⟩ ?_
            exact J176 N144 (by omega) l2 l2r s10 s10v hW
          · have hW := hW.2 c12
            refine pq_l (pc' := 171) rfl rfl rfl rfl rfl ?_
            refine pq_k (pc' := 172) (v := (0, 3)) rfl rfl rfl (fun _ => rfl) ?_
            refine pq_l (pc' := 173) rfl rfl rfl rfl rfl ?_
            refine pq_cVV (pc' := 176) rfl rfl rfl rfl rfl (c_fail10 L ys d s10 s10v 3 (⟨by decide, by decide⟩ : iR 3) l1 l1r _ hW) (fun s13 hr => ?_)
            obtain ⟨s13v, hW⟩ := hr
            refine pq_w [(0, (2, ((582 : Nat) : Int))), (1, (0, l1)), (2, (0, l2))] ⟨rfl, rfl, rfl, trivial⟩ ?_
            exact J176 N144 (by omega) l2 l2r s13 s13v hW
  have J23 : ∀ (l1 : Int) (l1r : iR l1) (I23 : Int × im_S → Prop) (hB23 : ∀ a : Int × im_S, I23 a → C_multiply10_23 I23 l1 a.1 a.2 Q), ∀ N23 : Nat, N23 ≤ N → ∀ (l2 : Int) (l2r : iR l2) (s : im_S) (hv : jR s), I23 (l2, s) → pq L ys d N23 rm_p_X10_multiply (23, [(0, (2, ((582 : Nat) : Int))), (1, (0, l1)), (2, (0, l2))], [], s) (fun r : im_Re => r.1 = none ∧ (jR r.2 ∧ Q r.2)) := by
    intro l1 l1r I23 hB23 N23
    induction N23 using Nat.strongRecOn with
    | _ N23 ih23 =>
      intro hN23 l2 l2r s hv hI
      have hW : C_multiply10_23 I23 l1 l2 s Q := hB23 (l2, s) hI
      have J31 : ∀ (l2 : Int) (l2r : iR l2) (I31 : Int × im_S → Prop) (hB31 : ∀ a : Int × im_S, I31 a → C_multiply10_31 I23 I31 l1 l2 a.1 a.2 Q), ∀ N31 : Nat, N31 ≤ N23 → ∀ (l3 : Int) (l3r : iR l3) (s : im_S) (hv : jR s), I31 (l3, s) → pq L ys d N31 rm_p_X10_multiply (31, [(0, (2, ((582 : Nat) : Int))), (1, (0, l1)), (2, (0, l2)), (3, (0, l3))], [], s) (fun r : im_Re => r.1 = none ∧ (jR r.2 ∧ Q r.2)) := by
        intro l2 l2r I31 hB31 N31
        induction N31 using Nat.strongRecOn with
        | _ N31 ih31 =>
          intro hN31 l3 l3r s hv hI
          have hW : C_multiply10_31 I23 I31 l1 l2 l3 s Q := hB31 (l3, s) hI
          have J130 : ∀ N130 : Nat, N130 ≤ N31 → ∀ (l3 : Int) (l3r : iR l3) (s : im_S) (hv : jR s), C_multiply10_130 I23 I31 l1 l2 l3 s Q → pq L ys d N130 rm_p_X10_multiply (130, [(0, (2, ((582 : Nat) : Int))), (1, (0, l1)), (2, (0, l2)), (3, (0, l3))], [], s) (fun r : im_Re => r.1 = none ∧ (jR r.2 ∧ Q r.2)) := by
            intro N130 hN130 l3 l3r s hv hW
            unfold C_multiply10_130 at hW
            refine pq_inc (pc' := 133) rfl rfl rfl rfl ?_
            refine pq_gotoT (pc' := 31) rfl rfl (fun m15 m15l => ?_)
            refine pq_w [(0, (2, ((582 : Nat) : Int))), (1, (0, l1)), (2, (0, l2)), (3, (0, (w32 (l3 + 1))))] ⟨rfl, rfl, rfl, rfl, trivial⟩ ?_
            exact ih31 m15 (by omega) (by omega) (w32 (l3 + 1)) (w32_r _) s hv hW
          have J100 : ∀ N100 : Nat, N100 ≤ N31 → ∀ (l3 : Int) (l3r : iR l3) (l4 : Int) (l4r : lR l4) (l6 : Int) (l6r : lR l6) (s : im_S) (hv : jR s), C_multiply10_100 I23 I31 l1 l2 l3 l4 l6 s Q → pq L ys d N100 rm_p_X10_multiply (100, [(0, (2, ((582 : Nat) : Int))), (1, (0, l1)), (2, (0, l2)), (3, (0, l3)), (4, (1, l4)), (6, (1, l6))], [], s) (fun r : im_Re => r.1 = none ∧ (jR r.2 ∧ Q r.2)) := by
            intro N100 hN100 l3 l3r l4 l4r l6 l6r s hv hW
            unfold C_multiply10_100 at hW
            refine pq_l (pc' := 102) rfl rfl rfl rfl rfl ?_
            refine pq_k (pc' := 103) (v := (1, 0)) rfl rfl rfl (fun _ => rfl) ?_
            refine pq_lcmp (pc' := 104) rfl rfl l4r (⟨by decide, by decide⟩ : lR 0) (fun z16 z16c => ?_)
            refine pq_z_eq (pt := 130) (pc' := 107) rfl rfl rfl (fun c17 => ?_) (fun c17 => ?_)
            · have c17 : l4 = 0 := by omega
              have hW := hW.1 c17
              refine pq_w [(0, (2, ((582 : Nat) : Int))), (1, (0, l1)), (2, (0, l2)), (3, (0, l3))] ⟨rfl, rfl, rfl, rfl, trivial⟩ ?_
              exact J130 N100 (by omega) l3 l3r s hv hW
            · have c17 : ¬ (l4 = 0) := by omega
              have hW := hW.2 c17
              refine pq_l (pc' := 109) rfl rfl rfl rfl rfl ?_
              refine pq_k (pc' := 110) (v := (1, 0)) rfl rfl rfl (fun _ => rfl) ?_
              refine pq_lcmp (pc' := 111) rfl rfl l6r (⟨by decide, by decide⟩ : lR 0) (fun z18 z18c => ?_)
              refine pq_z_eq (pt := 130) (pc' := 114) rfl rfl rfl (fun c19 => ?_) (fun c19 => ?_)
              · have c19 : l6 = 0 := by omega
                have hW := hW.1 c19
                refine pq_w [(0, (2, ((582 : Nat) : Int))), (1, (0, l1)), (2, (0, l2)), (3, (0, l3))] ⟨rfl, rfl, rfl, rfl, trivial⟩ ?_
                exact J130 N100 (by omega) l3 l3r s hv hW
              · have c19 : ¬ (l6 = 0) := by omega
                have hW := hW.2 c19
                refine pq_l (pc' := 115) rfl rfl rfl rfl rfl ?_
                refine pr_gr (pc' := 118) (v := 592) rfl rfl rfl rfl rfl hv ?_
                refine pq_l (pc' := 119) rfl rfl rfl rfl rfl ?_
                refine pq_l (pc' := 120) rfl rfl rfl rfl rfl ?_
                refine pq_add (pc' := 121) rfl rfl ?_
                refine pq_x (pc' := 122) rfl rfl rfl (fun _ => rfl) ?_
                refine pq_la (pc' := 123) rfl rfl (fun r20a r20b r20 => ?_)
                have hW := hW ⟨⟨r20a, r20b⟩, r20⟩
                refine pq_l (pc' := 125) rfl rfl rfl rfl rfl ?_
                refine pq_l (pc' := 127) rfl rfl rfl rfl rfl ?_
                refine pq_lmul (pc' := 128) rfl rfl ?_
                refine pq_ladd (pc' := 129) rfl rfl ?_
                refine pr_ls (pc' := 130) rfl rfl hv (fun s21a s21b s21 s21e s21v => ?_)
                have hW := hW ⟨s21a, s21b⟩ s21 s21e
                refine pq_w [(0, (2, ((582 : Nat) : Int))), (1, (0, l1)), (2, (0, l2)), (3, (0, l3))] ⟨rfl, rfl, rfl, rfl, trivial⟩ ?_
                exact J130 N100 (by omega) l3 l3r s21 s21v hW
          unfold C_multiply10_31 at hW
          refine pq_l (pc' := 32) rfl rfl rfl rfl rfl ?_
          refine pq_k (pc' := 34) (v := (0, 9)) rfl rfl rfl (fun _ => rfl) ?_
          refine pq_c_ge (pt := 136) (pc' := 37) rfl rfl rfl (fun c22 => ?_) (fun c22 => ?_)
          · have hW := hW.1 c22
            refine pq_inc (pc' := 139) rfl rfl rfl rfl ?_
            refine pq_gotoT (pc' := 23) rfl rfl (fun m23 m23l => ?_)
            refine pq_w [(0, (2, ((582 : Nat) : Int))), (1, (0, l1)), (2, (0, (w32 (l2 + 1))))] ⟨rfl, rfl, rfl, trivial⟩ ?_
            exact ih23 m23 (by omega) (by omega) (w32 (l2 + 1)) (w32_r _) s hv hW
          · have hW := hW.2 c22
            refine pq_l (pc' := 38) rfl rfl rfl rfl rfl ?_
            refine pr_gr (pc' := 41) (v := 590) rfl rfl rfl rfl rfl hv ?_
            refine pq_k (pc' := 43) (v := (0, 9)) rfl rfl rfl (fun _ => rfl) ?_
            refine pq_l (pc' := 44) rfl rfl rfl rfl rfl ?_
            refine pq_gi (pc' := 47) rfl rfl rfl rfl rfl (fun r24 => ?_)
            refine pq_mul (pc' := 48) rfl rfl ?_
            refine pq_l (pc' := 49) rfl rfl rfl rfl rfl ?_
            refine pq_add (pc' := 50) rfl rfl ?_
            refine pq_la (pc' := 51) rfl rfl (fun r25a r25b r25 => ?_)
            have hW := hW ⟨⟨r25a, r25b⟩, r25⟩
            refine pq_s2 (pc' := 53) rfl rfl rfl rfl rfl ?_
            refine pq_l (pc' := 54) rfl rfl rfl rfl rfl ?_
            refine pr_gr (pc' := 57) (v := 591) rfl rfl rfl rfl rfl hv ?_
            refine pq_k (pc' := 59) (v := (0, 9)) rfl rfl rfl (fun _ => rfl) ?_
            refine pq_l (pc' := 60) rfl rfl rfl rfl rfl ?_
            refine pq_gi (pc' := 63) rfl rfl rfl rfl rfl (fun r26 => ?_)
            refine pq_mul (pc' := 64) rfl rfl ?_
            refine pq_l (pc' := 65) rfl rfl rfl rfl rfl ?_
            refine pq_add (pc' := 66) rfl rfl ?_
            refine pq_la (pc' := 67) rfl rfl (fun r27a r27b r27 => ?_)
            have hW := hW ⟨⟨r27a, r27b⟩, r27⟩
            refine pq_s2 (pc' := 69) rfl rfl rfl rfl rfl ?_
            refine pq_l (pc' := 71) rfl rfl rfl rfl rfl ?_
            refine pq_k (pc' := 72) (v := (1, 0)) rfl rfl rfl (fun _ => rfl) ?_
            refine pq_lcmp (pc' := 73) rfl rfl r25 (⟨by decide, by decide⟩ : lR 0) (fun z28 z28c => ?_)
            refine pq_z_eq (pt := 100) (pc' := 76) rfl rfl rfl (fun c29 => ?_) (fun c29 => ?_)
            · have c29 : (cga s 590 (w32 ((w32 (9 * (cgf s 582 21))) + l2))) = 0 := by omega
              have hW := hW.1 c29
              refine pq_w [(0, (2, ((582 : Nat) : Int))), (1, (0, l1)), (2, (0, l2)), (3, (0, l3)), (4, (1, (cga s 590 (w32 ((w32 (9 * (cgf s 582 21))) + l2))))), (6, (1, (cga s 591 (w32 ((w32 (9 * (cgf s 582 21))) + l3)))))] ⟨rfl, rfl, rfl, rfl, rfl, rfl, trivial⟩ ?_
              exact J100 N31 (by omega) l3 l3r (cga s 590 (w32 ((w32 (9 * (cgf s 582 21))) + l2))) r25 (cga s 591 (w32 ((w32 (9 * (cgf s 582 21))) + l3))) r27 s hv hW
            · have c29 : ¬ ((cga s 590 (w32 ((w32 (9 * (cgf s 582 21))) + l2))) = 0) := by omega
              have hW := hW.2 c29
              refine pq_l (pc' := 78) rfl rfl rfl rfl rfl ?_
              refine pq_k (pc' := 79) (v := (1, 0)) rfl rfl rfl (fun _ => rfl) ?_
              refine pq_lcmp (pc' := 80) rfl rfl r27 (⟨by decide, by decide⟩ : lR 0) (fun z30 z30c => ?_)
              refine pq_z_eq (pt := 100) (pc' := 83) rfl rfl rfl (fun c31 => ?_) (fun c31 => ?_)
              · have c31 : (cga s 591 (w32 ((w32 (9 * (cgf s 582 21))) + l3))) = 0 := by omega
                have hW := hW.1 c31
                refine pq_w [(0, (2, ((582 : Nat) : Int))), (1, (0, l1)), (2, (0, l2)), (3, (0, l3)), (4, (1, (cga s 590 (w32 ((w32 (9 * (cgf s 582 21))) + l2))))), (6, (1, (cga s 591 (w32 ((w32 (9 * (cgf s 582 21))) + l3)))))] ⟨rfl, rfl, rfl, rfl, rfl, rfl, trivial⟩ ?_
                exact J100 N31 (by omega) l3 l3r (cga s 590 (w32 ((w32 (9 * (cgf s 582 21))) + l2))) r25 (cga s 591 (w32 ((w32 (9 * (cgf s 582 21))) + l3))) r27 s hv hW
              · have c31 : ¬ ((cga s 591 (w32 ((w32 (9 * (cgf s 582 21))) + l3))) = 0) := by omega
                have hW := hW.2 c31
                refine pq_l (pc' := 84) rfl rfl rfl rfl rfl ?_
                refine pq_l (pc' := 85) rfl rfl rfl rfl rfl ?_
                refine pq_add (pc' := 86) rfl rfl ?_
                refine pq_k (pc' := 88) (v := (0, 9)) rfl rfl rfl (fun _ => rfl) ?_
                refine pq_c_lt (pt := 100) (pc' := 91) rfl rfl rfl (fun c32 => ?_) (fun c32 => ?_)
                · have hW := hW.1 c32
                  refine pq_w [(0, (2, ((582 : Nat) : Int))), (1, (0, l1)), (2, (0, l2)), (3, (0, l3)), (4, (1, (cga s 590 (w32 ((w32 (9 * (cgf s 582 21))) + l2))))), (6, (1, (cga s 591 (w32 ((w32 (9 * (cgf s 582 21))) + l3)))))] ⟨rfl, rfl, rfl, rfl, rfl, rfl, trivial⟩ ?_
                  exact J100 N31 (by omega) l3 l3r (cga s 590 (w32 ((w32 (9 * (cgf s 582 21))) + l2))) r25 (cga s 591 (w32 ((w32 (9 * (cgf s 582 21))) + l3))) r27 s hv hW
                · have hW := hW.2 c32
                  refine pq_l (pc' := 92) rfl rfl rfl rfl rfl ?_
                  refine pq_k (pc' := 93) (v := (0, 3)) rfl rfl rfl (fun _ => rfl) ?_
                  refine pq_l (pc' := 94) rfl rfl rfl rfl rfl ?_
                  refine pq_cVV (pc' := 97) rfl rfl rfl rfl rfl (c_fail10 L ys d s hv 3 (⟨by decide, by decide⟩ : iR 3) l1 l1r _ hW) (fun s33 hr => ?_)
                  obtain ⟨s33v, hW⟩ := hr
                  refine pq_goto (pc' := 130) rfl rfl ?_
                  refine pq_w [(0, (2, ((582 : Nat) : Int))), (1, (0, l1)), (2, (0, l2)), (3, (0, l3))] ⟨rfl, rfl, rfl, rfl, trivial⟩ ?_
                  exact J130 N31 (by omega) l3 l3r s33 s33v hW
      unfold C_multiply10_23 at hW
      refine pq_l (pc' := 24) rfl rfl rfl rfl rfl ?_
      refine pq_k (pc' := 26) (v := (0, 9)) rfl rfl rfl (fun _ => rfl) ?_
      refine pq_c_ge (pt := 142) (pc' := 29) rfl rfl rfl (fun c35 => ?_) (fun c35 => ?_)
      · have hW := hW.1 c35
        refine pq_k (pc' := 143) (v := (0, 0)) rfl rfl rfl (fun _ => rfl) ?_
        refine pq_s (pc' := 144) rfl rfl rfl rfl rfl ?_
        refine pq_w [(0, (2, ((582 : Nat) : Int))), (1, (0, l1)), (2, (0, 0))] ⟨rfl, rfl, rfl, trivial⟩ ?_
        obtain ⟨I9, hI9, hB9⟩ := hW
        exact J144 l1 l1r I9 hB9 N23 (by omega) 0 (⟨by decide, by decide⟩ : iR 0) s hv hI9
      · have hW := hW.2 c35
        refine pq_k (pc' := 30) (v := (0, 0)) rfl rfl rfl (fun _ => rfl) ?_
        refine pq_s (pc' := 31) rfl rfl rfl rfl rfl ?_
        refine pq_w [(0, (2, ((582 : Nat) : Int))), (1, (0, l1)), (2, (0, l2)), (3, (0, 0))] ⟨rfl, rfl, rfl, rfl, trivial⟩ ?_
        obtain ⟨I9, hI9, hB9⟩ := hW
        exact J31 l2 l2r I9 hB9 N23 (by omega) 0 (⟨by decide, by decide⟩ : iR 0) s hv hI9
  have J2 : ∀ (l1 : Int) (l1r : iR l1) (I2 : Int × im_S → Prop) (hB2 : ∀ a : Int × im_S, I2 a → C_multiply10_2 I2 l1 a.1 a.2 Q), ∀ N2 : Nat, N2 ≤ N → ∀ (l2 : Int) (l2r : iR l2) (s : im_S) (hv : jR s), I2 (l2, s) → pq L ys d N2 rm_p_X10_multiply (2, [(0, (2, ((582 : Nat) : Int))), (1, (0, l1)), (2, (0, l2))], [], s) (fun r : im_Re => r.1 = none ∧ (jR r.2 ∧ Q r.2)) := by
    intro l1 l1r I2 hB2 N2
    induction N2 using Nat.strongRecOn with
    | _ N2 ih2 =>
      intro hN2 l2 l2r s hv hI
      have hW : C_multiply10_2 I2 l1 l2 s Q := hB2 (l2, s) hI
      unfold C_multiply10_2 at hW
      refine pq_l (pc' := 3) rfl rfl rfl rfl rfl ?_
      refine pq_k (pc' := 5) (v := (0, 9)) rfl rfl rfl (fun _ => rfl) ?_
      refine pq_c_ge (pt := 21) (pc' := 8) rfl rfl rfl (fun c36 => ?_) (fun c36 => ?_)
      · have hW := hW.1 c36
        refine pq_k (pc' := 22) (v := (0, 0)) rfl rfl rfl (fun _ => rfl) ?_
        refine pq_s (pc' := 23) rfl rfl rfl rfl rfl ?_
        refine pq_w [(0, (2, ((582 : Nat) : Int))), (1, (0, l1)), (2, (0, 0))] ⟨rfl, rfl, rfl, trivial⟩ ?_
        obtain ⟨I9, hI9, hB9⟩ := hW
        exact J23 l1 l1r I9 hB9 N2 (by omega) 0 (⟨by decide, by decide⟩ : iR 0) s hv hI9
      · have hW := hW.2 c36
        refine pq_l (pc' := 9) rfl rfl rfl rfl rfl ?_
        refine pr_gr (pc' := 12) (v := 592) rfl rfl rfl rfl rfl hv ?_
        refine pq_l (pc' := 13) rfl rfl rfl rfl rfl ?_
        refine pq_k (pc' := 14) (v := (1, 0)) rfl rfl rfl (fun _ => rfl) ?_
        refine pr_ls (pc' := 15) rfl rfl hv (fun s37a s37b s37 s37e s37v => ?_)
        have hW := hW ⟨s37a, s37b⟩ s37 s37e
        refine pq_inc (pc' := 18) rfl rfl rfl rfl ?_
        refine pq_gotoT (pc' := 2) rfl rfl (fun m38 m38l => ?_)
        refine pq_w [(0, (2, ((582 : Nat) : Int))), (1, (0, l1)), (2, (0, (w32 (l2 + 1))))] ⟨rfl, rfl, rfl, trivial⟩ ?_
        exact ih2 m38 (by omega) (by omega) (w32 (l2 + 1)) (w32_r _) s37 s37v hW
  unfold C_multiply10 at hW
  refine pq_k (pc' := 1) (v := (0, 0)) rfl rfl rfl (fun _ => rfl) ?_
  refine pq_s (pc' := 2) rfl rfl rfl rfl rfl ?_
  refine pq_w [(0, (2, ((582 : Nat) : Int))), (1, (0, l1)), (2, (0, 0))] ⟨rfl, rfl, rfl, trivial⟩ ?_
  obtain ⟨I9, hI9, hB9⟩ := hW
  exact J2 l1 l1r I9 hB9 N (by omega) 0 (⟨by decide, by decide⟩ : iR 0) s hv hI9
def C_raise10_192 (K192 : Int × im_S → Prop) (l3 : Int) (l7 : Int) (s : im_S) (Q : im_S → Prop) : Prop := ((9 ≤ l7 → (Q s)) ∧ (¬ (9 ≤ l7) → (caJ s 590 (w32 (l3 + l7)) → ((0 ≤ (w32 (l3 + l7)) ∧ (w32 (l3 + l7)) < gln 591) → ∀ s3, s3 = cpa s 591 (w32 (l3 + l7)) (cga s 590 (w32 (l3 + l7))) → (caJ s3 596 l7 → ((0 ≤ (w32 (l3 + l7)) ∧ (w32 (l3 + l7)) < gln 590) → ∀ s5, s5 = cpa s3 590 (w32 (l3 + l7)) (cga s3 596 l7) → (K192 ((w32 (l7 + 1)), s5))))))))
def C_raise10_189 (l3 : Int) (s : im_S) (Q : im_S → Prop) : Prop := (ploop (fun (K : Int × im_S → Prop) (a : Int × im_S) => C_raise10_192 K l3 a.1 a.2 Q) (0, s))
def C_raise10_164 (K164 : Int × im_S → Prop) (l2 : Int) (l3 : Int) (l6 : Int) (l7 : Int) (s : im_S) (Q : im_S → Prop) : Prop := ((l6 ≤ l7 → (C_raise10_189 l3 s Q)) ∧ (¬ (l6 ≤ l7) → (C_good10 s (fun z9 s8 => ((z9 = 0 → (C_raise10_189 l3 s8 Q)) ∧ (¬ (z9 = 0) → (C_multiply10 l2 s8 (fun s11 => (K164 ((w32 (l7 + 1)), s11))))))))))
def C_raise10_113 (K113 : Int × im_S → Prop) (l2 : Int) (l3 : Int) (l6 : Int) (l7 : Int) (s : im_S) (Q : im_S → Prop) : Prop := ((9 ≤ l7 → (ploop (fun (K : Int × im_S → Prop) (a : Int × im_S) => C_raise10_164 K l2 l3 l6 a.1 a.2 Q) (0, s))) ∧ (¬ (9 ≤ l7) → (caJ s 590 (w32 (l3 + l7)) → ((0 ≤ l7 ∧ l7 < gln 596) → ∀ s16, s16 = cpa s 596 l7 (cga s 590 (w32 (l3 + l7))) → (∀ v217 : Int, v217 = (if ¬ (l7 = 0) then 0 else 1) → ((0 ≤ (w32 (l3 + l7)) ∧ (w32 (l3 + l7)) < gln 590) → ∀ s219, s219 = cpa s16 590 (w32 (l3 + l7)) v217 → (K113 ((w32 (l7 + 1)), s219))))))))
def C_raise10_14 (K14 : Int × Int × im_S → Prop) (l1 : Int) (l2 : Int) (l3 : Int) (l4 : Int) (l5 : Int) (s : im_S) (Q : im_S → Prop) : Prop := ((9 ≤ l5 → (∀ v422 : Int, v422 = (if l4 = 0 then 0 else (if (cga s 591 l3) < (-1) then 0 else (if 1 < (cga s 591 l3) then 0 else 1))) → (∀ v624 : Int, v624 = (if v422 = 0 then l1 else (if l1 ≤ 2 then l1 else (w32 (2 + (remI l1 2))))) → (ploop (fun (K : Int × im_S → Prop) (a : Int × im_S) => C_raise10_113 K l2 l3 v624 a.1 a.2 Q) (0, s))))) ∧ (¬ (9 ≤ l5) → (∀ v826 : Int, v826 = (if l4 = 0 then 0 else (if ¬ ((cga s 591 (w32 (l3 + l5))) = 0) then 0 else 1)) → (K14 (v826, (w32 (l5 + 1)), s)))))
def C_raise10 (l1 : Int) (l2 : Int) (s : im_S) (Q : im_S → Prop) : Prop := (ploop (fun (K : Int × Int × im_S → Prop) (a : Int × Int × im_S) => C_raise10_14 K l1 l2 (w32 (9 * (cgf s 582 21))) a.1 a.2.1 a.2.2 Q) (1, 1, s))
set_option maxRecDepth 16384 in
theorem c_raise10 (L : Nat) (ys : Nat → Int32) (d : Nat) (s : im_S) (hv : jR s) (l1 : Int) (l1r : iR l1) (l2 : Int) (l2r : iR l2) (Q : im_S → Prop) (hW : C_raise10 l1 l2 s Q) : pcV L ys d 81 [(2, ((582 : Nat) : Int)), (0, l1), (0, l2)] s (fun s9 => jR s9 ∧ Q s9) := by
  intro res hres
  refine pq_start (M := rm_p_X10_raise) (Q := (fun r : im_Re => r.1 = none ∧ (jR r.2 ∧ Q r.2))) om_X10_raise (fun d N => ?_) res hres
  refine pq_w [(0, (2, ((582 : Nat) : Int))), (1, (0, l1)), (2, (0, l2))] ⟨rfl, rfl, rfl, trivial⟩ ?_
  have J192 : ∀ (l3 : Int) (l3r : iR l3) (I192 : Int × im_S → Prop) (hB192 : ∀ a : Int × im_S, I192 a → C_raise10_192 I192 l3 a.1 a.2 Q), ∀ N192 : Nat, N192 ≤ N → ∀ (l7 : Int) (l7r : iR l7) (s : im_S) (hv : jR s), I192 (l7, s) → pq L ys d N192 rm_p_X10_raise (192, [(0, (2, ((582 : Nat) : Int))), (3, (0, l3)), (7, (0, l7))], [], s) (fun r : im_Re => r.1 = none ∧ (jR r.2 ∧ Q r.2)) := by
    intro l3 l3r I192 hB192 N192
    induction N192 using Nat.strongRecOn with
    | _ N192 ih192 =>
      intro hN192 l7 l7r s hv hI
      have hW : C_raise10_192 I192 l3 l7 s Q := hB192 (l7, s) hI
      unfold C_raise10_192 at hW
      refine pq_l (pc' := 194) rfl rfl rfl rfl rfl ?_
      refine pq_k (pc' := 196) (v := (0, 9)) rfl rfl rfl (fun _ => rfl) ?_
      refine pq_c_ge (pt := 239) (pc' := 199) rfl rfl rfl (fun c1 => ?_) (fun c1 => ?_)
      · have hW := hW.1 c1
        exact pq_vret rfl ⟨rfl, hv, hW⟩
      · have hW := hW.2 c1
        refine pq_l (pc' := 200) rfl rfl rfl rfl rfl ?_
        refine pr_gr (pc' := 203) (v := 591) rfl rfl rfl rfl rfl hv ?_
        refine pq_l (pc' := 204) rfl rfl rfl rfl rfl ?_
        refine pq_l (pc' := 206) rfl rfl rfl rfl rfl ?_
        refine pq_add (pc' := 207) rfl rfl ?_
        refine pq_l (pc' := 208) rfl rfl rfl rfl rfl ?_
        refine pr_gr (pc' := 211) (v := 590) rfl rfl rfl rfl rfl hv ?_
        refine pq_l (pc' := 212) rfl rfl rfl rfl rfl ?_
        refine pq_l (pc' := 214) rfl rfl rfl rfl rfl ?_
        refine pq_add (pc' := 215) rfl rfl ?_
        refine pq_la (pc' := 216) rfl rfl (fun r2a r2b r2 => ?_)
        have hW := hW ⟨⟨r2a, r2b⟩, r2⟩
        refine pr_ls (pc' := 217) rfl rfl hv (fun s3a s3b s3 s3e s3v => ?_)
        have hW := hW ⟨s3a, s3b⟩ s3 s3e
        refine pq_l (pc' := 218) rfl rfl rfl rfl rfl ?_
        refine pr_gr (pc' := 221) (v := 590) rfl rfl rfl rfl rfl s3v ?_
        refine pq_l (pc' := 222) rfl rfl rfl rfl rfl ?_
        refine pq_l (pc' := 224) rfl rfl rfl rfl rfl ?_
        refine pq_add (pc' := 225) rfl rfl ?_
        refine pq_l (pc' := 226) rfl rfl rfl rfl rfl ?_
        refine pr_gr (pc' := 229) (v := 596) rfl rfl rfl rfl rfl s3v ?_
        refine pq_l (pc' := 231) rfl rfl rfl rfl rfl ?_
        refine pq_la (pc' := 232) rfl rfl (fun r4a r4b r4 => ?_)
        have hW := hW ⟨⟨r4a, r4b⟩, r4⟩
        refine pr_ls (pc' := 233) rfl rfl s3v (fun s5a s5b s5 s5e s5v => ?_)
        have hW := hW ⟨s5a, s5b⟩ s5 s5e
        refine pq_inc (pc' := 236) rfl rfl rfl rfl ?_
        refine pq_gotoT (pc' := 192) rfl rfl (fun m6 m6l => ?_)
        refine pq_w [(0, (2, ((582 : Nat) : Int))), (3, (0, l3)), (7, (0, (w32 (l7 + 1))))] ⟨rfl, rfl, rfl, trivial⟩ ?_
        exact ih192 m6 (by omega) (by omega) (w32 (l7 + 1)) (w32_r _) s5 s5v hW
  have J189 : ∀ N189 : Nat, N189 ≤ N → ∀ (l3 : Int) (l3r : iR l3) (s : im_S) (hv : jR s), C_raise10_189 l3 s Q → pq L ys d N189 rm_p_X10_raise (189, [(0, (2, ((582 : Nat) : Int))), (3, (0, l3))], [], s) (fun r : im_Re => r.1 = none ∧ (jR r.2 ∧ Q r.2)) := by
    intro N189 hN189 l3 l3r s hv hW
    unfold C_raise10_189 at hW
    refine pq_k (pc' := 190) (v := (0, 0)) rfl rfl rfl (fun _ => rfl) ?_
    refine pq_s (pc' := 192) rfl rfl rfl rfl rfl ?_
    refine pq_w [(0, (2, ((582 : Nat) : Int))), (3, (0, l3)), (7, (0, 0))] ⟨rfl, rfl, rfl, trivial⟩ ?_
    obtain ⟨I9, hI9, hB9⟩ := hW
    exact J192 l3 l3r I9 hB9 N189 (by omega) 0 (⟨by decide, by decide⟩ : iR 0) s hv hI9
  have J164 : ∀ (l2 : Int) (l2r : iR l2) (l3 : Int) (l3r : iR l3) (l6 : Int) (l6r : iR l6) (I164 : Int × im_S → Prop) (hB164 : ∀ a : Int × im_S, I164 a → C_raise10_164 I164 l2 l3 l6 a.1 a.2 Q), ∀ N164 : Nat, N164 ≤ N → ∀ (l7 : Int) (l7r : iR l7) (s : im_S) (hv : jR s), I164 (l7, s) → pq L ys d N164 rm_p_X10_raise (164, [(0, (2, ((582 : Nat) : Int))), (2, (0, l2)), (3, (0, l3)), (6, (0, l6)), (7, (0, l7))], [], s) (fun r : im_Re => r.1 = none ∧ (jR r.2 ∧ Q r.2)) := by
    intro l2 l2r l3 l3r l6 l6r I164 hB164 N164
    induction N164 using Nat.strongRecOn with
    | _ N164 ih164 =>
      intro hN164 l7 l7r s hv hI
      have hW : C_raise10_164 I164 l2 l3 l6 l7 s Q := hB164 (l7, s) hI
      unfold C_raise10_164 at hW
      refine pq_l (pc' := 166) rfl rfl rfl rfl rfl ?_
      refine pq_l (pc' := 168) rfl rfl rfl rfl rfl ?_
      refine pq_c_ge (pt := 189) (pc' := 171) rfl rfl rfl (fun c7 => ?_) (fun c7 => ?_)
      · have hW := hW.1 c7
        refine pq_w [(0, (2, ((582 : Nat) : Int))), (3, (0, l3))] ⟨rfl, rfl, trivial⟩ ?_
        exact J189 N164 (by omega) l3 l3r s hv hW
      · have hW := hW.2 c7
        refine pq_l (pc' := 172) rfl rfl rfl rfl rfl ?_
        refine pq_cVI (pc' := 175) rfl rfl rfl rfl rfl (c_good10 L ys d s hv  _ hW) (fun z9 s8 hr => ?_)
        obtain ⟨s8v, z9r, hW⟩ := hr
        refine pq_z_eq (pt := 189) (pc' := 178) rfl rfl rfl (fun c10 => ?_) (fun c10 => ?_)
        · have hW := hW.1 c10
          refine pq_w [(0, (2, ((582 : Nat) : Int))), (3, (0, l3))] ⟨rfl, rfl, trivial⟩ ?_
          exact J189 N164 (by omega) l3 l3r s8 s8v hW
        · have hW := hW.2 c10
          refine pq_l (pc' := 179) rfl rfl rfl rfl rfl ?_
          refine pq_l (pc' := 180) rfl rfl rfl rfl rfl ?_
          refine pq_cVV (pc' := 183) rfl rfl rfl rfl rfl (c_multiply10 L ys d s8 s8v l2 l2r _ hW) (fun s11 hr => ?_)
          obtain ⟨s11v, hW⟩ := hr
          refine pq_inc (pc' := 186) rfl rfl rfl rfl ?_
          refine pq_gotoT (pc' := 164) rfl rfl (fun m13 m13l => ?_)
          refine pq_w [(0, (2, ((582 : Nat) : Int))), (2, (0, l2)), (3, (0, l3)), (6, (0, l6)), (7, (0, (w32 (l7 + 1))))] ⟨rfl, rfl, rfl, rfl, rfl, trivial⟩ ?_
          exact ih164 m13 (by omega) (by omega) (w32 (l7 + 1)) (w32_r _) s11 s11v hW
  have J113 : ∀ (l2 : Int) (l2r : iR l2) (l3 : Int) (l3r : iR l3) (l6 : Int) (l6r : iR l6) (I113 : Int × im_S → Prop) (hB113 : ∀ a : Int × im_S, I113 a → C_raise10_113 I113 l2 l3 l6 a.1 a.2 Q), ∀ N113 : Nat, N113 ≤ N → ∀ (l7 : Int) (l7r : iR l7) (s : im_S) (hv : jR s), I113 (l7, s) → pq L ys d N113 rm_p_X10_raise (113, [(0, (2, ((582 : Nat) : Int))), (2, (0, l2)), (3, (0, l3)), (6, (0, l6)), (7, (0, l7))], [], s) (fun r : im_Re => r.1 = none ∧ (jR r.2 ∧ Q r.2)) := by
    intro l2 l2r l3 l3r l6 l6r I113 hB113 N113
    induction N113 using Nat.strongRecOn with
    | _ N113 ih113 =>
      intro hN113 l7 l7r s hv hI
      have hW : C_raise10_113 I113 l2 l3 l6 l7 s Q := hB113 (l7, s) hI
      unfold C_raise10_113 at hW
      refine pq_l (pc' := 115) rfl rfl rfl rfl rfl ?_
      refine pq_k (pc' := 117) (v := (0, 9)) rfl rfl rfl (fun _ => rfl) ?_
      refine pq_c_ge (pt := 161) (pc' := 120) rfl rfl rfl (fun c14 => ?_) (fun c14 => ?_)
      · have hW := hW.1 c14
        refine pq_k (pc' := 162) (v := (0, 0)) rfl rfl rfl (fun _ => rfl) ?_
        refine pq_s (pc' := 164) rfl rfl rfl rfl rfl ?_
        refine pq_w [(0, (2, ((582 : Nat) : Int))), (2, (0, l2)), (3, (0, l3)), (6, (0, l6)), (7, (0, 0))] ⟨rfl, rfl, rfl, rfl, rfl, trivial⟩ ?_
        obtain ⟨I9, hI9, hB9⟩ := hW
        exact J164 l2 l2r l3 l3r l6 l6r I9 hB9 N113 (by omega) 0 (⟨by decide, by decide⟩ : iR 0) s hv hI9
      · have hW := hW.2 c14
        refine pq_l (pc' := 121) rfl rfl rfl rfl rfl ?_
        refine pr_gr (pc' := 124) (v := 596) rfl rfl rfl rfl rfl hv ?_
        refine pq_l (pc' := 126) rfl rfl rfl rfl rfl ?_
        refine pq_l (pc' := 127) rfl rfl rfl rfl rfl ?_
        refine pr_gr (pc' := 130) (v := 590) rfl rfl rfl rfl rfl hv ?_
        refine pq_l (pc' := 131) rfl rfl rfl rfl rfl ?_
        refine pq_l (pc' := 133) rfl rfl rfl rfl rfl ?_
        refine pq_add (pc' := 134) rfl rfl ?_
        refine pq_la (pc' := 135) rfl rfl (fun r15a r15b r15 => ?_)
        have hW := hW ⟨⟨r15a, r15b⟩, r15⟩
        refine pr_ls (pc' := 136) rfl rfl hv (fun s16a s16b s16 s16e s16v => ?_)
        have hW := hW ⟨s16a, s16b⟩ s16 s16e
        refine pq_l (pc' := 137) rfl rfl rfl rfl rfl ?_
        refine pr_gr (pc' := 140) (v := 590) rfl rfl rfl rfl rfl s16v ?_
        refine pq_l (pc' := 141) rfl rfl rfl rfl rfl ?_
        refine pq_l (pc' := 143) rfl rfl rfl rfl rfl ?_
        refine pq_add (pc' := 144) rfl rfl ?_
        refine pq_l (pc' := 146) rfl rfl rfl rfl rfl ?_
        have J218 : ∀ v217 : Int, lR v217 → (((0 ≤ (w32 (l3 + l7)) ∧ (w32 (l3 + l7)) < gln 590) → ∀ s219, s219 = cpa s16 590 (w32 (l3 + l7)) v217 → (I113 ((w32 (l7 + 1)), s219)))) → pq L ys d N113 rm_p_X10_raise (154, [(0, (2, ((582 : Nat) : Int))), (2, (0, l2)), (3, (0, l3)), (6, (0, l6)), (7, (0, l7))], [(1, v217), (0, (w32 (l3 + l7))), (2, ((590 : Nat) : Int))], s16) (fun r : im_Re => r.1 = none ∧ (jR r.2 ∧ Q r.2)) := by
          intro v217 v217r hW
          refine pr_ls (pc' := 155) rfl rfl s16v (fun s219a s219b s219 s219e s219v => ?_)
          have hW := hW ⟨s219a, s219b⟩ s219 s219e
          refine pq_inc (pc' := 158) rfl rfl rfl rfl ?_
          refine pq_gotoT (pc' := 113) rfl rfl (fun m220 m220l => ?_)
          refine pq_w [(0, (2, ((582 : Nat) : Int))), (2, (0, l2)), (3, (0, l3)), (6, (0, l6)), (7, (0, (w32 (l7 + 1))))] ⟨rfl, rfl, rfl, rfl, rfl, trivial⟩ ?_
          exact ih113 m220 (by omega) (by omega) (w32 (l7 + 1)) (w32_r _) s219 s219v hW
        refine pq_z_ne (pt := 153) (pc' := 149) rfl rfl rfl (fun c17 => ?_) (fun c17 => ?_)
        · refine pq_k (pc' := 154) (v := (1, 0)) rfl rfl rfl (fun _ => rfl) ?_
          refine pq_w [(0, (2, ((582 : Nat) : Int))), (2, (0, l2)), (3, (0, l3)), (6, (0, l6)), (7, (0, l7))] ⟨rfl, rfl, rfl, rfl, rfl, trivial⟩ ?_
          exact J218 0 (⟨by decide, by decide⟩ : lR 0) (hW _ (by rw [if_pos c17]))
        · refine pq_k (pc' := 150) (v := (1, 1)) rfl rfl rfl (fun _ => rfl) ?_
          refine pq_goto (pc' := 154) rfl rfl ?_
          refine pq_w [(0, (2, ((582 : Nat) : Int))), (2, (0, l2)), (3, (0, l3)), (6, (0, l6)), (7, (0, l7))] ⟨rfl, rfl, rfl, rfl, rfl, trivial⟩ ?_
          exact J218 1 (⟨by decide, by decide⟩ : lR 1) (hW _ (by rw [if_neg (by omega)]))
  have J14 : ∀ (l1 : Int) (l1r : iR l1) (l2 : Int) (l2r : iR l2) (l3 : Int) (l3r : iR l3) (I14 : Int × Int × im_S → Prop) (hB14 : ∀ a : Int × Int × im_S, I14 a → C_raise10_14 I14 l1 l2 l3 a.1 a.2.1 a.2.2 Q), ∀ N14 : Nat, N14 ≤ N → ∀ (l4 : Int) (l4r : iR l4) (l5 : Int) (l5r : iR l5) (s : im_S) (hv : jR s), I14 (l4, l5, s) → pq L ys d N14 rm_p_X10_raise (14, [(0, (2, ((582 : Nat) : Int))), (1, (0, l1)), (2, (0, l2)), (3, (0, l3)), (4, (0, l4)), (5, (0, l5))], [], s) (fun r : im_Re => r.1 = none ∧ (jR r.2 ∧ Q r.2)) := by
    intro l1 l1r l2 l2r l3 l3r I14 hB14 N14
    induction N14 using Nat.strongRecOn with
    | _ N14 ih14 =>
      intro hN14 l4 l4r l5 l5r s hv hI
      have hW : C_raise10_14 I14 l1 l2 l3 l4 l5 s Q := hB14 (l4, l5, s) hI
      unfold C_raise10_14 at hW
      refine pq_l (pc' := 16) rfl rfl rfl rfl rfl ?_
      refine pq_k (pc' := 18) (v := (0, 9)) rfl rfl rfl (fun _ => rfl) ?_
      refine pq_c_ge (pt := 53) (pc' := 21) rfl rfl rfl (fun c221 => ?_) (fun c221 => ?_)
      · have hW := hW.1 c221
        refine pq_l (pc' := 55) rfl rfl rfl rfl rfl ?_
        have J423 : ∀ v422 : Int, iR v422 → ((∀ v624 : Int, v624 = (if v422 = 0 then l1 else (if l1 ≤ 2 then l1 else (w32 (2 + (remI l1 2))))) → (ploop (fun (K : Int × im_S → Prop) (a : Int × im_S) => C_raise10_113 K l2 l3 v624 a.1 a.2 Q) (0, s)))) → pq L ys d N14 rm_p_X10_raise (87, [(0, (2, ((582 : Nat) : Int))), (1, (0, l1)), (2, (0, l2)), (3, (0, l3))], [(0, v422)], s) (fun r : im_Re => r.1 = none ∧ (jR r.2 ∧ Q r.2)) := by
          intro v422 v422r hW
          refine pq_s (pc' := 89) rfl rfl rfl rfl rfl ?_
          refine pq_l (pc' := 91) rfl rfl rfl rfl rfl ?_
          have J625 : ∀ v624 : Int, iR v624 → ((ploop (fun (K : Int × im_S → Prop) (a : Int × im_S) => C_raise10_113 K l2 l3 v624 a.1 a.2 Q) (0, s))) → pq L ys d N14 rm_p_X10_raise (108, [(0, (2, ((582 : Nat) : Int))), (2, (0, l2)), (3, (0, l3))], [(0, v624)], s) (fun r : im_Re => r.1 = none ∧ (jR r.2 ∧ Q r.2)) := by
            intro v624 v624r hW
            refine pq_s (pc' := 110) rfl rfl rfl rfl rfl ?_
            refine pq_k (pc' := 111) (v := (0, 0)) rfl rfl rfl (fun _ => rfl) ?_
            refine pq_s (pc' := 113) rfl rfl rfl rfl rfl ?_
            refine pq_w [(0, (2, ((582 : Nat) : Int))), (2, (0, l2)), (3, (0, l3)), (6, (0, v624)), (7, (0, 0))] ⟨rfl, rfl, rfl, rfl, rfl, trivial⟩ ?_
            obtain ⟨I9, hI9, hB9⟩ := hW
            exact J113 l2 l2r l3 l3r v624 v624r I9 hB9 N14 (by omega) 0 (⟨by decide, by decide⟩ : iR 0) s hv hI9
          refine pq_z_eq (pt := 107) (pc' := 94) rfl rfl rfl (fun c424 => ?_) (fun c424 => ?_)
          · refine pq_l (pc' := 108) rfl rfl rfl rfl rfl ?_
            refine pq_w [(0, (2, ((582 : Nat) : Int))), (2, (0, l2)), (3, (0, l3))] ⟨rfl, rfl, rfl, trivial⟩ ?_
            exact J625 l1 l1r (hW _ (by rw [if_pos c424]))
          · refine pq_l (pc' := 95) rfl rfl rfl rfl rfl ?_
            refine pq_k (pc' := 96) (v := (0, 2)) rfl rfl rfl (fun _ => rfl) ?_
            refine pq_c_le (pt := 107) (pc' := 99) rfl rfl rfl (fun c425 => ?_) (fun c425 => ?_)
            · refine pq_l (pc' := 108) rfl rfl rfl rfl rfl ?_
              refine pq_w [(0, (2, ((582 : Nat) : Int))), (2, (0, l2)), (3, (0, l3))] ⟨rfl, rfl, rfl, trivial⟩ ?_
              exact J625 l1 l1r (hW _ (by rw [if_neg (fun z => c424 z), if_pos c425]))
            · refine pq_k (pc' := 100) (v := (0, 2)) rfl rfl rfl (fun _ => rfl) ?_
              refine pq_l (pc' := 101) rfl rfl rfl rfl rfl ?_
              refine pq_k (pc' := 102) (v := (0, 2)) rfl rfl rfl (fun _ => rfl) ?_
              refine pq_irem (pc' := 103) rfl rfl ?_
              refine pq_add (pc' := 104) rfl rfl ?_
              refine pq_goto (pc' := 108) rfl rfl ?_
              refine pq_w [(0, (2, ((582 : Nat) : Int))), (2, (0, l2)), (3, (0, l3))] ⟨rfl, rfl, rfl, trivial⟩ ?_
              exact J625 (w32 (2 + (remI l1 2))) (w32_r _) (hW _ (by rw [if_neg (fun z => c424 z), if_neg (fun z => c425 z)]))
        refine pq_z_eq (pt := 86) (pc' := 58) rfl rfl rfl (fun c222 => ?_) (fun c222 => ?_)
        · refine pq_k (pc' := 87) (v := (0, 0)) rfl rfl rfl (fun _ => rfl) ?_
          refine pq_w [(0, (2, ((582 : Nat) : Int))), (1, (0, l1)), (2, (0, l2)), (3, (0, l3))] ⟨rfl, rfl, rfl, rfl, trivial⟩ ?_
          exact J423 0 (⟨by decide, by decide⟩ : iR 0) (hW _ (by rw [if_pos c222]))
        · refine pq_l (pc' := 59) rfl rfl rfl rfl rfl ?_
          refine pr_gr (pc' := 62) (v := 591) rfl rfl rfl rfl rfl hv ?_
          refine pq_l (pc' := 63) rfl rfl rfl rfl rfl ?_
          refine pq_la (pc' := 64) rfl rfl (fun r223a r223b r223 => ?_)
          refine pq_k (pc' := 67) (v := (1, (-1))) rfl rfl rfl (fun _ => rfl) ?_
          refine pq_lcmp (pc' := 68) rfl rfl r223 (⟨by decide, by decide⟩ : lR (-1)) (fun z224 z224c => ?_)
          refine pq_z_lt (pt := 86) (pc' := 71) rfl rfl rfl (fun c225 => ?_) (fun c225 => ?_)
          · have c225 : (cga s 591 l3) < (-1) := by omega
            refine pq_k (pc' := 87) (v := (0, 0)) rfl rfl rfl (fun _ => rfl) ?_
            refine pq_w [(0, (2, ((582 : Nat) : Int))), (1, (0, l1)), (2, (0, l2)), (3, (0, l3))] ⟨rfl, rfl, rfl, rfl, trivial⟩ ?_
            exact J423 0 (⟨by decide, by decide⟩ : iR 0) (hW _ (by rw [if_neg (fun z => c222 z), if_pos c225]))
          · have c225 : ¬ ((cga s 591 l3) < (-1)) := by omega
            refine pq_l (pc' := 72) rfl rfl rfl rfl rfl ?_
            refine pr_gr (pc' := 75) (v := 591) rfl rfl rfl rfl rfl hv ?_
            refine pq_l (pc' := 76) rfl rfl rfl rfl rfl ?_
            refine pq_la (pc' := 77) rfl rfl (fun r226a r226b r226 => ?_)
            refine pq_k (pc' := 78) (v := (1, 1)) rfl rfl rfl (fun _ => rfl) ?_
            refine pq_lcmp (pc' := 79) rfl rfl r226 (⟨by decide, by decide⟩ : lR 1) (fun z227 z227c => ?_)
            refine pq_z_gt (pt := 86) (pc' := 82) rfl rfl rfl (fun c228 => ?_) (fun c228 => ?_)
            · have c228 : 1 < (cga s 591 l3) := by omega
              refine pq_k (pc' := 87) (v := (0, 0)) rfl rfl rfl (fun _ => rfl) ?_
              refine pq_w [(0, (2, ((582 : Nat) : Int))), (1, (0, l1)), (2, (0, l2)), (3, (0, l3))] ⟨rfl, rfl, rfl, rfl, trivial⟩ ?_
              exact J423 0 (⟨by decide, by decide⟩ : iR 0) (hW _ (by rw [if_neg (fun z => c222 z), if_neg (fun z => c225 z), if_pos c228]))
            · have c228 : ¬ (1 < (cga s 591 l3)) := by omega
              refine pq_k (pc' := 83) (v := (0, 1)) rfl rfl rfl (fun _ => rfl) ?_
              refine pq_goto (pc' := 87) rfl rfl ?_
              refine pq_w [(0, (2, ((582 : Nat) : Int))), (1, (0, l1)), (2, (0, l2)), (3, (0, l3))] ⟨rfl, rfl, rfl, rfl, trivial⟩ ?_
              exact J423 1 (⟨by decide, by decide⟩ : iR 1) (hW _ (by rw [if_neg (fun z => c222 z), if_neg (fun z => c225 z), if_neg (fun z => c228 z)]))
      · have hW := hW.2 c221
        refine pq_l (pc' := 23) rfl rfl rfl rfl rfl ?_
        have J827 : ∀ v826 : Int, iR v826 → ((I14 (v826, (w32 (l5 + 1)), s))) → pq L ys d N14 rm_p_X10_raise (45, [(0, (2, ((582 : Nat) : Int))), (1, (0, l1)), (2, (0, l2)), (3, (0, l3)), (5, (0, l5))], [(0, v826)], s) (fun r : im_Re => r.1 = none ∧ (jR r.2 ∧ Q r.2)) := by
          intro v826 v826r hW
          refine pq_s (pc' := 47) rfl rfl rfl rfl rfl ?_
          refine pq_inc (pc' := 50) rfl rfl rfl rfl ?_
          refine pq_gotoT (pc' := 14) rfl rfl (fun m828 m828l => ?_)
          refine pq_w [(0, (2, ((582 : Nat) : Int))), (1, (0, l1)), (2, (0, l2)), (3, (0, l3)), (4, (0, v826)), (5, (0, (w32 (l5 + 1))))] ⟨rfl, rfl, rfl, rfl, rfl, rfl, trivial⟩ ?_
          exact ih14 m828 (by omega) (by omega) v826 v826r (w32 (l5 + 1)) (w32_r _) s hv hW
        refine pq_z_eq (pt := 44) (pc' := 26) rfl rfl rfl (fun c626 => ?_) (fun c626 => ?_)
        · refine pq_k (pc' := 45) (v := (0, 0)) rfl rfl rfl (fun _ => rfl) ?_
          refine pq_w [(0, (2, ((582 : Nat) : Int))), (1, (0, l1)), (2, (0, l2)), (3, (0, l3)), (5, (0, l5))] ⟨rfl, rfl, rfl, rfl, rfl, trivial⟩ ?_
          exact J827 0 (⟨by decide, by decide⟩ : iR 0) (hW _ (by rw [if_pos c626]))
        · refine pq_l (pc' := 27) rfl rfl rfl rfl rfl ?_
          refine pr_gr (pc' := 30) (v := 591) rfl rfl rfl rfl rfl hv ?_
          refine pq_l (pc' := 31) rfl rfl rfl rfl rfl ?_
          refine pq_l (pc' := 33) rfl rfl rfl rfl rfl ?_
          refine pq_add (pc' := 34) rfl rfl ?_
          refine pq_la (pc' := 35) rfl rfl (fun r627a r627b r627 => ?_)
          refine pq_k (pc' := 36) (v := (1, 0)) rfl rfl rfl (fun _ => rfl) ?_
          refine pq_lcmp (pc' := 37) rfl rfl r627 (⟨by decide, by decide⟩ : lR 0) (fun z628 z628c => ?_)
          refine pq_z_ne (pt := 44) (pc' := 40) rfl rfl rfl (fun c629 => ?_) (fun c629 => ?_)
          · have c629 : ¬ ((cga s 591 (w32 (l3 + l5))) = 0) := by omega
            refine pq_k (pc' := 45) (v := (0, 0)) rfl rfl rfl (fun _ => rfl) ?_
            refine pq_w [(0, (2, ((582 : Nat) : Int))), (1, (0, l1)), (2, (0, l2)), (3, (0, l3)), (5, (0, l5))] ⟨rfl, rfl, rfl, rfl, rfl, trivial⟩ ?_
            exact J827 0 (⟨by decide, by decide⟩ : iR 0) (hW _ (by rw [if_neg (fun z => c626 z), if_pos c629]))
          · have c629 : (cga s 591 (w32 (l3 + l5))) = 0 := by omega
            refine pq_k (pc' := 41) (v := (0, 1)) rfl rfl rfl (fun _ => rfl) ?_
            refine pq_goto (pc' := 45) rfl rfl ?_
            refine pq_w [(0, (2, ((582 : Nat) : Int))), (1, (0, l1)), (2, (0, l2)), (3, (0, l3)), (5, (0, l5))] ⟨rfl, rfl, rfl, rfl, rfl, trivial⟩ ?_
            exact J827 1 (⟨by decide, by decide⟩ : iR 1) (hW _ (by rw [if_neg (fun z => c626 z), if_neg (by omega)]))
  unfold C_raise10 at hW
  refine pq_k (pc' := 2) (v := (0, 9)) rfl rfl rfl (fun _ => rfl) ?_
  refine pq_l (pc' := 3) rfl rfl rfl rfl rfl ?_
  refine pq_gi (pc' := 6) rfl rfl rfl rfl rfl (fun r829 => ?_)
  refine pq_mul (pc' := 7) rfl rfl ?_
  refine pq_s (pc' := 8) rfl rfl rfl rfl rfl ?_
  refine pq_k (pc' := 9) (v := (0, 1)) rfl rfl rfl (fun _ => rfl) ?_
  refine pq_s (pc' := 11) rfl rfl rfl rfl rfl ?_
  refine pq_k (pc' := 12) (v := (0, 1)) rfl rfl rfl (fun _ => rfl) ?_
  refine pq_s (pc' := 14) rfl rfl rfl rfl rfl ?_
  refine pq_w [(0, (2, ((582 : Nat) : Int))), (1, (0, l1)), (2, (0, l2)), (3, (0, (w32 (9 * (cgf s 582 21))))), (4, (0, 1)), (5, (0, 1))] ⟨rfl, rfl, rfl, rfl, rfl, rfl, trivial⟩ ?_
  obtain ⟨I9, hI9, hB9⟩ := hW
  exact J14 l1 l1r l2 l2r (w32 (9 * (cgf s 582 21))) (w32_r _) I9 hB9 N (by omega) 1 (⟨by decide, by decide⟩ : iR 1) 1 (⟨by decide, by decide⟩ : iR 1) s hv hI9
def C_beginSum10_88 (s : im_S) (Q : im_S → Prop) : Prop := (Q s)
def C_beginSum10_2 (K2 : Int × im_S → Prop) (l1 : Int) (s : im_S) (Q : im_S → Prop) : Prop := ((9 ≤ l1 → ((0 ≤ (cgf s 582 21) ∧ (cgf s 582 21) < gln 593) → ∀ s3, s3 = cpa s 593 (cgf s 582 21) 1 → ((0 ≤ (cgf s3 582 21) ∧ (cgf s3 582 21) < gln 594) → ∀ s5, s5 = cpa s3 594 (cgf s3 582 21) (-1) → ((0 ≤ (cgf s5 582 21) ∧ (cgf s5 582 21) < gln 595) → ∀ s7, s7 = cpa s5 595 (cgf s5 582 21) (-1) → (C_peek10 s7 (fun z9 s8 => ((¬ (z9 = 45) → (C_beginSum10_88 s8 Q)) ∧ (z9 = 45 → ((0 ≤ (cgf s8 582 21) ∧ (cgf s8 582 21) < gln 593) → ∀ s12, s12 = cpa s8 593 (cgf s8 582 21) (-1) → (∀ s14, s14 = cpf s12 582 4 (w32 ((cgf s12 582 4) + 1)) → (C_beginSum10_88 s14 Q))))))))))) ∧ (¬ (9 ≤ l1) → ((0 ≤ (w32 ((w32 (9 * (cgf s 582 21))) + l1)) ∧ (w32 ((w32 (9 * (cgf s 582 21))) + l1)) < gln 589) → ∀ s16, s16 = cpa s 589 (w32 ((w32 (9 * (cgf s 582 21))) + l1)) 0 → (K2 ((w32 (l1 + 1)), s16)))))
def C_beginSum10 (s : im_S) (Q : im_S → Prop) : Prop := (ploop (fun (K : Int × im_S → Prop) (a : Int × im_S) => C_beginSum10_2 K a.1 a.2 Q) (0, s))
set_option maxRecDepth 16384 in
theorem c_beginSum10 (L : Nat) (ys : Nat → Int32) (d : Nat) (s : im_S) (hv : jR s) (Q : im_S → Prop) (hW : C_beginSum10 s Q) : pcV L ys d 12 [(2, ((582 : Nat) : Int))] s (fun s9 => jR s9 ∧ Q s9) := by
  intro res hres
  refine pq_start (M := rm_p_X10_beginSum) (Q := (fun r : im_Re => r.1 = none ∧ (jR r.2 ∧ Q r.2))) om_X10_beginSum (fun d N => ?_) res hres
  refine pq_w [(0, (2, ((582 : Nat) : Int)))] ⟨rfl, trivial⟩ ?_
  have J88 : ∀ N88 : Nat, N88 ≤ N → ∀ (s : im_S) (hv : jR s), C_beginSum10_88 s Q → pq L ys d N88 rm_p_X10_beginSum (88, [], [], s) (fun r : im_Re => r.1 = none ∧ (jR r.2 ∧ Q r.2)) := by
    intro N88 hN88 s hv hW
    unfold C_beginSum10_88 at hW
    exact pq_vret rfl ⟨rfl, hv, hW⟩
  have J2 : ∀ (I2 : Int × im_S → Prop) (hB2 : ∀ a : Int × im_S, I2 a → C_beginSum10_2 I2 a.1 a.2 Q), ∀ N2 : Nat, N2 ≤ N → ∀ (l1 : Int) (l1r : iR l1) (s : im_S) (hv : jR s), I2 (l1, s) → pq L ys d N2 rm_p_X10_beginSum (2, [(0, (2, ((582 : Nat) : Int))), (1, (0, l1))], [], s) (fun r : im_Re => r.1 = none ∧ (jR r.2 ∧ Q r.2)) := by
    intro I2 hB2 N2
    induction N2 using Nat.strongRecOn with
    | _ N2 ih2 =>
      intro hN2 l1 l1r s hv hI
      have hW : C_beginSum10_2 I2 l1 s Q := hB2 (l1, s) hI
      unfold C_beginSum10_2 at hW
      refine pq_l (pc' := 3) rfl rfl rfl rfl rfl ?_
      refine pq_k (pc' := 5) (v := (0, 9)) rfl rfl rfl (fun _ => rfl) ?_
      refine pq_c_ge (pt := 29) (pc' := 8) rfl rfl rfl (fun c1 => ?_) (fun c1 => ?_)
      · have hW := hW.1 c1
        refine pq_l (pc' := 30) rfl rfl rfl rfl rfl ?_
        refine pr_gr (pc' := 33) (v := 593) rfl rfl rfl rfl rfl hv ?_
        refine pq_l (pc' := 34) rfl rfl rfl rfl rfl ?_
        refine pq_gi (pc' := 37) rfl rfl rfl rfl rfl (fun r2 => ?_)
        refine pq_k (pc' := 38) (v := (0, 1)) rfl rfl rfl (fun _ => rfl) ?_
        refine pr_is (pc' := 39) rfl rfl (by decide) (by decide) hv (fun s3a s3b s3 s3e s3v => ?_)
        have hW := hW ⟨s3a, s3b⟩ s3 s3e
        refine pq_l (pc' := 40) rfl rfl rfl rfl rfl ?_
        refine pr_gr (pc' := 43) (v := 594) rfl rfl rfl rfl rfl s3v ?_
        refine pq_l (pc' := 44) rfl rfl rfl rfl rfl ?_
        refine pq_gi (pc' := 47) rfl rfl rfl rfl rfl (fun r4 => ?_)
        refine pq_k (pc' := 48) (v := (0, (-1))) rfl rfl rfl (fun _ => rfl) ?_
        refine pr_is (pc' := 49) rfl rfl (by decide) (by decide) s3v (fun s5a s5b s5 s5e s5v => ?_)
        have hW := hW ⟨s5a, s5b⟩ s5 s5e
        refine pq_l (pc' := 50) rfl rfl rfl rfl rfl ?_
        refine pr_gr (pc' := 53) (v := 595) rfl rfl rfl rfl rfl s5v ?_
        refine pq_l (pc' := 54) rfl rfl rfl rfl rfl ?_
        refine pq_gi (pc' := 57) rfl rfl rfl rfl rfl (fun r6 => ?_)
        refine pq_k (pc' := 58) (v := (0, (-1))) rfl rfl rfl (fun _ => rfl) ?_
        refine pr_is (pc' := 59) rfl rfl (by decide) (by decide) s5v (fun s7a s7b s7 s7e s7v => ?_)
        have hW := hW ⟨s7a, s7b⟩ s7 s7e
        refine pq_l (pc' := 60) rfl rfl rfl rfl rfl ?_
        refine pq_cVI (pc' := 63) rfl rfl rfl rfl rfl (c_peek10 L ys d s7 s7v  _ hW) (fun z9 s8 hr => ?_)
        obtain ⟨s8v, z9r, hW⟩ := hr
        refine pq_k (pc' := 65) (v := (0, 45)) rfl rfl rfl (fun _ => rfl) ?_
        refine pq_c_ne (pt := 88) (pc' := 68) rfl rfl rfl (fun c10 => ?_) (fun c10 => ?_)
        · have hW := hW.1 c10
          refine pq_w [] trivial ?_
          exact J88 N2 (by omega) s8 s8v hW
        · have hW := hW.2 c10
          refine pq_l (pc' := 69) rfl rfl rfl rfl rfl ?_
          refine pr_gr (pc' := 72) (v := 593) rfl rfl rfl rfl rfl s8v ?_
          refine pq_l (pc' := 73) rfl rfl rfl rfl rfl ?_
          refine pq_gi (pc' := 76) rfl rfl rfl rfl rfl (fun r11 => ?_)
          refine pq_k (pc' := 77) (v := (0, (-1))) rfl rfl rfl (fun _ => rfl) ?_
          refine pr_is (pc' := 78) rfl rfl (by decide) (by decide) s8v (fun s12a s12b s12 s12e s12v => ?_)
          have hW := hW ⟨s12a, s12b⟩ s12 s12e
          refine pq_l (pc' := 79) rfl rfl rfl rfl rfl ?_
          refine pq_x (pc' := 80) rfl rfl rfl (fun _ => rfl) ?_
          refine pq_gi (pc' := 83) rfl rfl rfl rfl rfl (fun r13 => ?_)
          refine pq_k (pc' := 84) (v := (0, 1)) rfl rfl rfl (fun _ => rfl) ?_
          refine pq_add (pc' := 85) rfl rfl ?_
          refine pr_pX (pc' := 88) rfl rfl rfl rfl s12v (fun s14 s14e s14v => ?_)
          have hW := hW s14 s14e
          refine pq_w [] trivial ?_
          exact J88 N2 (by omega) s14 s14v hW
      · have hW := hW.2 c1
        refine pq_l (pc' := 9) rfl rfl rfl rfl rfl ?_
        refine pr_gr (pc' := 12) (v := 589) rfl rfl rfl rfl rfl hv ?_
        refine pq_k (pc' := 14) (v := (0, 9)) rfl rfl rfl (fun _ => rfl) ?_
        refine pq_l (pc' := 15) rfl rfl rfl rfl rfl ?_
        refine pq_gi (pc' := 18) rfl rfl rfl rfl rfl (fun r15 => ?_)
        refine pq_mul (pc' := 19) rfl rfl ?_
        refine pq_l (pc' := 20) rfl rfl rfl rfl rfl ?_
        refine pq_add (pc' := 21) rfl rfl ?_
        refine pq_k (pc' := 22) (v := (1, 0)) rfl rfl rfl (fun _ => rfl) ?_
        refine pr_ls (pc' := 23) rfl rfl hv (fun s16a s16b s16 s16e s16v => ?_)
        have hW := hW ⟨s16a, s16b⟩ s16 s16e
        refine pq_inc (pc' := 26) rfl rfl rfl rfl ?_
        refine pq_gotoT (pc' := 2) rfl rfl (fun m17 m17l => ?_)
        refine pq_w [(0, (2, ((582 : Nat) : Int))), (1, (0, (w32 (l1 + 1))))] ⟨rfl, rfl, trivial⟩ ?_
        exact ih2 m17 (by omega) (by omega) (w32 (l1 + 1)) (w32_r _) s16 s16v hW
  unfold C_beginSum10 at hW
  refine pq_k (pc' := 1) (v := (0, 0)) rfl rfl rfl (fun _ => rfl) ?_
  refine pq_s (pc' := 2) rfl rfl rfl rfl rfl ?_
  refine pq_w [(0, (2, ((582 : Nat) : Int))), (1, (0, 0))] ⟨rfl, rfl, trivial⟩ ?_
  obtain ⟨I9, hI9, hB9⟩ := hW
  exact J2 I9 hB9 N (by omega) 0 (⟨by decide, by decide⟩ : iR 0) s hv hI9
def C_endBase10_152 (s : im_S) (Q : im_S → Prop) : Prop := (Q s)
def C_endBase10_96 (K96 : Int × im_S → Prop) (l1 : Int) (s : im_S) (Q : im_S → Prop) : Prop := ((9 ≤ l1 → (C_endBase10_152 s Q)) ∧ (¬ (9 ≤ l1) → (caJ s 591 (w32 ((w32 (9 * (cgf s 582 21))) + l1)) → ((0 ≤ (w32 ((w32 (9 * (cgf s 582 21))) + l1)) ∧ (w32 ((w32 (9 * (cgf s 582 21))) + l1)) < gln 590) → ∀ s5, s5 = cpa s 590 (w32 ((w32 (9 * (cgf s 582 21))) + l1)) (cga s 591 (w32 ((w32 (9 * (cgf s 582 21))) + l1))) → (K96 ((w32 (l1 + 1)), s5))))))
def C_endBase10_74 (s : im_S) (Q : im_S → Prop) : Prop := (C_good10 s (fun z8 s7 => ((¬ (z8 = 0) → (caI s7 595 (cgf s7 582 21) → ((0 ≤ (cga s7 595 (cgf s7 582 21)) → (caI s7 595 (cgf s7 582 21) → (C_multiply10 (cga s7 595 (cgf s7 582 21)) s7 (fun s15 => (C_endBase10_152 s15 Q))))) ∧ (¬ (0 ≤ (cga s7 595 (cgf s7 582 21))) → (ploop (fun (K : Int × im_S → Prop) (a : Int × im_S) => C_endBase10_96 K a.1 a.2 Q) (0, s7)))))) ∧ (z8 = 0 → (Q s7)))))
def C_endBase10_67 (s : im_S) (Q : im_S → Prop) : Prop := (C_endBase10_74 s Q)
def C_endBase10 (s : im_S) (Q : im_S → Prop) : Prop := (C_look10 s (fun s17 => (C_good10 s17 (fun z20 s19 => ((z20 = 0 → (C_endBase10_74 s19 Q)) ∧ (¬ (z20 = 0) → (C_peek10 s19 (fun z23 s22 => ((¬ (z23 = 94) → (C_endBase10_74 s22 Q)) ∧ (z23 = 94 → (∀ s27, s27 = cpf s22 582 4 (w32 ((cgf s22 582 4) + 1)) → (C_peek10 s27 (fun z29 s28 => (C_isDigit10 z29 s28 (fun z31 s30 => ((z31 = 0 → (C_cannot10 s30 (fun s33 => (C_endBase10_74 s33 Q)))) ∧ (¬ (z31 = 0) → (C_number10 s30 (fun z36 s35 => (C_look10 s35 (fun s37 => (C_good10 s37 (fun z40 s39 => ((z40 = 0 → (C_endBase10_67 s39 Q)) ∧ (¬ (z40 = 0) → (C_raise10 z36 (cgf s22 582 4) s39 (fun s42 => (C_endBase10_67 s42 Q))))))))))))))))))))))))))))
set_option maxRecDepth 16384 in
theorem c_endBase10 (L : Nat) (ys : Nat → Int32) (d : Nat) (s : im_S) (hv : jR s) (Q : im_S → Prop) (hW : C_endBase10 s Q) : pcV L ys d 31 [(2, ((582 : Nat) : Int))] s (fun s9 => jR s9 ∧ Q s9) := by
  intro res hres
  refine pq_start (M := rm_p_X10_endBase) (Q := (fun r : im_Re => r.1 = none ∧ (jR r.2 ∧ Q r.2))) om_X10_endBase (fun d N => ?_) res hres
  refine pq_w [(0, (2, ((582 : Nat) : Int)))] ⟨rfl, trivial⟩ ?_
  have J152 : ∀ N152 : Nat, N152 ≤ N → ∀ (s : im_S) (hv : jR s), C_endBase10_152 s Q → pq L ys d N152 rm_p_X10_endBase (152, [], [], s) (fun r : im_Re => r.1 = none ∧ (jR r.2 ∧ Q r.2)) := by
    intro N152 hN152 s hv hW
    unfold C_endBase10_152 at hW
    exact pq_vret rfl ⟨rfl, hv, hW⟩
  have J96 : ∀ (I96 : Int × im_S → Prop) (hB96 : ∀ a : Int × im_S, I96 a → C_endBase10_96 I96 a.1 a.2 Q), ∀ N96 : Nat, N96 ≤ N → ∀ (l1 : Int) (l1r : iR l1) (s : im_S) (hv : jR s), I96 (l1, s) → pq L ys d N96 rm_p_X10_endBase (96, [(0, (2, ((582 : Nat) : Int))), (1, (0, l1))], [], s) (fun r : im_Re => r.1 = none ∧ (jR r.2 ∧ Q r.2)) := by
    intro I96 hB96 N96
    induction N96 using Nat.strongRecOn with
    | _ N96 ih96 =>
      intro hN96 l1 l1r s hv hI
      have hW : C_endBase10_96 I96 l1 s Q := hB96 (l1, s) hI
      unfold C_endBase10_96 at hW
      refine pq_l (pc' := 97) rfl rfl rfl rfl rfl ?_
      refine pq_k (pc' := 99) (v := (0, 9)) rfl rfl rfl (fun _ => rfl) ?_
      refine pq_c_ge (pt := 136) (pc' := 102) rfl rfl rfl (fun c1 => ?_) (fun c1 => ?_)
      · have hW := hW.1 c1
        refine pq_goto (pc' := 152) rfl rfl ?_
        refine pq_w [] trivial ?_
        exact J152 N96 (by omega) s hv hW
      · have hW := hW.2 c1
        refine pq_l (pc' := 103) rfl rfl rfl rfl rfl ?_
        refine pr_gr (pc' := 106) (v := 590) rfl rfl rfl rfl rfl hv ?_
        refine pq_k (pc' := 108) (v := (0, 9)) rfl rfl rfl (fun _ => rfl) ?_
        refine pq_l (pc' := 109) rfl rfl rfl rfl rfl ?_
        refine pq_gi (pc' := 112) rfl rfl rfl rfl rfl (fun r2 => ?_)
        refine pq_mul (pc' := 113) rfl rfl ?_
        refine pq_l (pc' := 114) rfl rfl rfl rfl rfl ?_
        refine pq_add (pc' := 115) rfl rfl ?_
        refine pq_l (pc' := 116) rfl rfl rfl rfl rfl ?_
        refine pr_gr (pc' := 119) (v := 591) rfl rfl rfl rfl rfl hv ?_
        refine pq_k (pc' := 121) (v := (0, 9)) rfl rfl rfl (fun _ => rfl) ?_
        refine pq_l (pc' := 122) rfl rfl rfl rfl rfl ?_
        refine pq_gi (pc' := 125) rfl rfl rfl rfl rfl (fun r3 => ?_)
        refine pq_mul (pc' := 126) rfl rfl ?_
        refine pq_l (pc' := 127) rfl rfl rfl rfl rfl ?_
        refine pq_add (pc' := 128) rfl rfl ?_
        refine pq_la (pc' := 129) rfl rfl (fun r4a r4b r4 => ?_)
        have hW := hW ⟨⟨r4a, r4b⟩, r4⟩
        refine pr_ls (pc' := 130) rfl rfl hv (fun s5a s5b s5 s5e s5v => ?_)
        have hW := hW ⟨s5a, s5b⟩ s5 s5e
        refine pq_inc (pc' := 133) rfl rfl rfl rfl ?_
        refine pq_gotoT (pc' := 96) rfl rfl (fun m6 m6l => ?_)
        refine pq_w [(0, (2, ((582 : Nat) : Int))), (1, (0, (w32 (l1 + 1))))] ⟨rfl, rfl, trivial⟩ ?_
        exact ih96 m6 (by omega) (by omega) (w32 (l1 + 1)) (w32_r _) s5 s5v hW
  have J74 : ∀ N74 : Nat, N74 ≤ N → ∀ (s : im_S) (hv : jR s), C_endBase10_74 s Q → pq L ys d N74 rm_p_X10_endBase (74, [(0, (2, ((582 : Nat) : Int)))], [], s) (fun r : im_Re => r.1 = none ∧ (jR r.2 ∧ Q r.2)) := by
    intro N74 hN74 s hv hW
    unfold C_endBase10_74 at hW
    refine pq_l (pc' := 75) rfl rfl rfl rfl rfl ?_
    refine pq_cVI (pc' := 78) rfl rfl rfl rfl rfl (c_good10 L ys d s hv  _ hW) (fun z8 s7 hr => ?_)
    obtain ⟨s7v, z8r, hW⟩ := hr
    refine pq_z_ne (pt := 82) (pc' := 81) rfl rfl rfl (fun c9 => ?_) (fun c9 => ?_)
    · have hW := hW.1 c9
      refine pq_l (pc' := 83) rfl rfl rfl rfl rfl ?_
      refine pr_gr (pc' := 86) (v := 595) rfl rfl rfl rfl rfl s7v ?_
      refine pq_l (pc' := 87) rfl rfl rfl rfl rfl ?_
      refine pq_gi (pc' := 90) rfl rfl rfl rfl rfl (fun r10 => ?_)
      refine pq_ia (pc' := 91) rfl rfl (fun r11a r11b r11 => ?_)
      have hW := hW ⟨⟨r11a, r11b⟩, r11⟩
      refine pq_z_ge (pt := 139) (pc' := 94) rfl rfl rfl (fun c12 => ?_) (fun c12 => ?_)
      · have hW := hW.1 c12
        refine pq_l (pc' := 140) rfl rfl rfl rfl rfl ?_
        refine pq_l (pc' := 141) rfl rfl rfl rfl rfl ?_
        refine pr_gr (pc' := 144) (v := 595) rfl rfl rfl rfl rfl s7v ?_
        refine pq_l (pc' := 145) rfl rfl rfl rfl rfl ?_
        refine pq_gi (pc' := 148) rfl rfl rfl rfl rfl (fun r13 => ?_)
        refine pq_ia (pc' := 149) rfl rfl (fun r14a r14b r14 => ?_)
        have hW := hW ⟨⟨r14a, r14b⟩, r14⟩
        refine pq_cVV (pc' := 152) rfl rfl rfl rfl rfl (c_multiply10 L ys d s7 s7v (cga s7 595 (cgf s7 582 21)) r14 _ hW) (fun s15 hr => ?_)
        obtain ⟨s15v, hW⟩ := hr
        refine pq_w [] trivial ?_
        exact J152 N74 (by omega) s15 s15v hW
      · have hW := hW.2 c12
        refine pq_k (pc' := 95) (v := (0, 0)) rfl rfl rfl (fun _ => rfl) ?_
        refine pq_s (pc' := 96) rfl rfl rfl rfl rfl ?_
        refine pq_w [(0, (2, ((582 : Nat) : Int))), (1, (0, 0))] ⟨rfl, rfl, trivial⟩ ?_
        obtain ⟨I9, hI9, hB9⟩ := hW
        exact J96 I9 hB9 N74 (by omega) 0 (⟨by decide, by decide⟩ : iR 0) s7 s7v hI9
    · have hW := hW.2 c9
      exact pq_vret rfl ⟨rfl, s7v, hW⟩
  have J67 : ∀ N67 : Nat, N67 ≤ N → ∀ (s : im_S) (hv : jR s), C_endBase10_67 s Q → pq L ys d N67 rm_p_X10_endBase (67, [(0, (2, ((582 : Nat) : Int)))], [], s) (fun r : im_Re => r.1 = none ∧ (jR r.2 ∧ Q r.2)) := by
    intro N67 hN67 s hv hW
    unfold C_endBase10_67 at hW
    refine pq_goto (pc' := 74) rfl rfl ?_
    refine pq_w [(0, (2, ((582 : Nat) : Int)))] ⟨rfl, trivial⟩ ?_
    exact J74 N67 (by omega) s hv hW
  unfold C_endBase10 at hW
  refine pq_l (pc' := 1) rfl rfl rfl rfl rfl ?_
  refine pq_cVV (pc' := 4) rfl rfl rfl rfl rfl (c_look10 L ys d s hv  _ hW) (fun s17 hr => ?_)
  obtain ⟨s17v, hW⟩ := hr
  refine pq_l (pc' := 5) rfl rfl rfl rfl rfl ?_
  refine pq_cVI (pc' := 8) rfl rfl rfl rfl rfl (c_good10 L ys d s17 s17v  _ hW) (fun z20 s19 hr => ?_)
  obtain ⟨s19v, z20r, hW⟩ := hr
  refine pq_z_eq (pt := 74) (pc' := 11) rfl rfl rfl (fun c21 => ?_) (fun c21 => ?_)
  · have hW := hW.1 c21
    refine pq_w [(0, (2, ((582 : Nat) : Int)))] ⟨rfl, trivial⟩ ?_
    exact J74 N (by omega) s19 s19v hW
  · have hW := hW.2 c21
    refine pq_l (pc' := 12) rfl rfl rfl rfl rfl ?_
    refine pq_cVI (pc' := 15) rfl rfl rfl rfl rfl (c_peek10 L ys d s19 s19v  _ hW) (fun z23 s22 hr => ?_)
    obtain ⟨s22v, z23r, hW⟩ := hr
    refine pq_k (pc' := 17) (v := (0, 94)) rfl rfl rfl (fun _ => rfl) ?_
    refine pq_c_ne (pt := 74) (pc' := 20) rfl rfl rfl (fun c24 => ?_) (fun c24 => ?_)
    · have hW := hW.1 c24
      refine pq_w [(0, (2, ((582 : Nat) : Int)))] ⟨rfl, trivial⟩ ?_
      exact J74 N (by omega) s22 s22v hW
    · have hW := hW.2 c24
      refine pq_l (pc' := 21) rfl rfl rfl rfl rfl ?_
      refine pq_gi (pc' := 24) rfl rfl rfl rfl rfl (fun r25 => ?_)
      refine pq_s (pc' := 25) rfl rfl rfl rfl rfl ?_
      refine pq_l (pc' := 26) rfl rfl rfl rfl rfl ?_
      refine pq_x (pc' := 27) rfl rfl rfl (fun _ => rfl) ?_
      refine pq_gi (pc' := 30) rfl rfl rfl rfl rfl (fun r26 => ?_)
      refine pq_k (pc' := 31) (v := (0, 1)) rfl rfl rfl (fun _ => rfl) ?_
      refine pq_add (pc' := 32) rfl rfl ?_
      refine pr_pX (pc' := 35) rfl rfl rfl rfl s22v (fun s27 s27e s27v => ?_)
      have hW := hW s27 s27e
      refine pq_l (pc' := 36) rfl rfl rfl rfl rfl ?_
      refine pq_cVI (pc' := 39) rfl rfl rfl rfl rfl (c_peek10 L ys d s27 s27v  _ hW) (fun z29 s28 hr => ?_)
      obtain ⟨s28v, z29r, hW⟩ := hr
      refine pq_cSI (pc' := 42) rfl rfl rfl rfl rfl (c_isDigit10 L ys d s28 s28v z29 z29r _ hW) (fun z31 s30 hr => ?_)
      obtain ⟨s30v, z31r, hW⟩ := hr
      refine pq_z_eq (pt := 70) (pc' := 45) rfl rfl rfl (fun c32 => ?_) (fun c32 => ?_)
      · have hW := hW.1 c32
        refine pq_l (pc' := 71) rfl rfl rfl rfl rfl ?_
        refine pq_cVV (pc' := 74) rfl rfl rfl rfl rfl (c_cannot10 L ys d s30 s30v  _ hW) (fun s33 hr => ?_)
        obtain ⟨s33v, hW⟩ := hr
        refine pq_w [(0, (2, ((582 : Nat) : Int)))] ⟨rfl, trivial⟩ ?_
        exact J74 N (by omega) s33 s33v hW
      · have hW := hW.2 c32
        refine pq_l (pc' := 46) rfl rfl rfl rfl rfl ?_
        refine pq_cVI (pc' := 49) rfl rfl rfl rfl rfl (c_number10 L ys d s30 s30v  _ hW) (fun z36 s35 hr => ?_)
        obtain ⟨s35v, z36r, hW⟩ := hr
        refine pq_s (pc' := 50) rfl rfl rfl rfl rfl ?_
        refine pq_l (pc' := 51) rfl rfl rfl rfl rfl ?_
        refine pq_cVV (pc' := 54) rfl rfl rfl rfl rfl (c_look10 L ys d s35 s35v  _ hW) (fun s37 hr => ?_)
        obtain ⟨s37v, hW⟩ := hr
        refine pq_l (pc' := 55) rfl rfl rfl rfl rfl ?_
        refine pq_cVI (pc' := 58) rfl rfl rfl rfl rfl (c_good10 L ys d s37 s37v  _ hW) (fun z40 s39 hr => ?_)
        obtain ⟨s39v, z40r, hW⟩ := hr
        refine pq_z_eq (pt := 67) (pc' := 61) rfl rfl rfl (fun c41 => ?_) (fun c41 => ?_)
        · have hW := hW.1 c41
          refine pq_w [(0, (2, ((582 : Nat) : Int)))] ⟨rfl, trivial⟩ ?_
          exact J67 N (by omega) s39 s39v hW
        · have hW := hW.2 c41
          refine pq_l (pc' := 62) rfl rfl rfl rfl rfl ?_
          refine pq_l (pc' := 63) rfl rfl rfl rfl rfl ?_
          refine pq_l (pc' := 64) rfl rfl rfl rfl rfl ?_
          refine pq_cVV (pc' := 67) rfl rfl rfl rfl rfl (c_raise10 L ys d s39 s39v z36 z36r (cgf s22 582 4) r25 _ hW) (fun s42 hr => ?_)
          obtain ⟨s42v, hW⟩ := hr
          refine pq_w [(0, (2, ((582 : Nat) : Int)))] ⟨rfl, trivial⟩ ?_
          exact J67 N (by omega) s42 s42v hW
def C_endTerm10_71 (K2 : Int × im_S → Prop) (l1 : Int) (s : im_S) (Q : im_S → Prop) : Prop := (K2 ((w32 (l1 + 1)), s))
def C_endTerm10_2 (K2 : Int × im_S → Prop) (l1 : Int) (s : im_S) (Q : im_S → Prop) : Prop := ((9 ≤ l1 → ((0 ≤ (cgf s 582 21) ∧ (cgf s 582 21) < gln 595) → ∀ s4, s4 = cpa s 595 (cgf s 582 21) (-1) → (Q s4))) ∧ (¬ (9 ≤ l1) → (caJ s 589 (w32 ((w32 (9 * (cgf s 582 21))) + l1)) → (caI s 593 (cgf s 582 21) → (caJ s 590 (w32 ((w32 (9 * (cgf s 582 21))) + l1)) → ((0 ≤ (w32 ((w32 (9 * (cgf s 582 21))) + l1)) ∧ (w32 ((w32 (9 * (cgf s 582 21))) + l1)) < gln 589) → ∀ s10, s10 = cpa s 589 (w32 ((w32 (9 * (cgf s 582 21))) + l1)) (w64 ((cga s 589 (w32 ((w32 (9 * (cgf s 582 21))) + l1))) + (w64 ((cga s 593 (cgf s 582 21)) * (cga s 590 (w32 ((w32 (9 * (cgf s 582 21))) + l1))))))) → (caJ s10 589 (w32 ((w32 (9 * (cgf s 582 21))) + l1)) → (C_isFine10 (cga s10 589 (w32 ((w32 (9 * (cgf s 582 21))) + l1))) s10 (fun z13 s12 => ((¬ (z13 = 0) → (C_endTerm10_71 K2 l1 s12 Q)) ∧ (z13 = 0 → (caI s12 594 (cgf s12 582 21) → (C_fail10 3 (cga s12 594 (cgf s12 582 21)) s12 (fun s17 => (C_endTerm10_71 K2 l1 s17 Q)))))))))))))))
def C_endTerm10 (s : im_S) (Q : im_S → Prop) : Prop := (ploop (fun (K : Int × im_S → Prop) (a : Int × im_S) => C_endTerm10_2 K a.1 a.2 Q) (0, s))
set_option maxRecDepth 16384 in
theorem c_endTerm10 (L : Nat) (ys : Nat → Int32) (d : Nat) (s : im_S) (hv : jR s) (Q : im_S → Prop) (hW : C_endTerm10 s Q) : pcV L ys d 33 [(2, ((582 : Nat) : Int))] s (fun s9 => jR s9 ∧ Q s9) := by
  intro res hres
  refine pq_start (M := rm_p_X10_endTerm) (Q := (fun r : im_Re => r.1 = none ∧ (jR r.2 ∧ Q r.2))) om_X10_endTerm (fun d N => ?_) res hres
  refine pq_w [(0, (2, ((582 : Nat) : Int)))] ⟨rfl, trivial⟩ ?_
  have J2 : ∀ (I2 : Int × im_S → Prop) (hB2 : ∀ a : Int × im_S, I2 a → C_endTerm10_2 I2 a.1 a.2 Q), ∀ N2 : Nat, N2 ≤ N → ∀ (l1 : Int) (l1r : iR l1) (s : im_S) (hv : jR s), I2 (l1, s) → pq L ys d N2 rm_p_X10_endTerm (2, [(0, (2, ((582 : Nat) : Int))), (1, (0, l1))], [], s) (fun r : im_Re => r.1 = none ∧ (jR r.2 ∧ Q r.2)) := by
    intro I2 hB2 N2
    induction N2 using Nat.strongRecOn with
    | _ N2 ih2 =>
      intro hN2 l1 l1r s hv hI
      have hW : C_endTerm10_2 I2 l1 s Q := hB2 (l1, s) hI
      have J71 : ∀ N71 : Nat, N71 ≤ N2 → ∀ (l1 : Int) (l1r : iR l1) (s : im_S) (hv : jR s), C_endTerm10_71 I2 l1 s Q → pq L ys d N71 rm_p_X10_endTerm (71, [(0, (2, ((582 : Nat) : Int))), (1, (0, l1))], [], s) (fun r : im_Re => r.1 = none ∧ (jR r.2 ∧ Q r.2)) := by
        intro N71 hN71 l1 l1r s hv hW
        unfold C_endTerm10_71 at hW
        refine pq_inc (pc' := 74) rfl rfl rfl rfl ?_
        refine pq_gotoT (pc' := 2) rfl rfl (fun m1 m1l => ?_)
        refine pq_w [(0, (2, ((582 : Nat) : Int))), (1, (0, (w32 (l1 + 1))))] ⟨rfl, rfl, trivial⟩ ?_
        exact ih2 m1 (by omega) (by omega) (w32 (l1 + 1)) (w32_r _) s hv hW
      unfold C_endTerm10_2 at hW
      refine pq_l (pc' := 3) rfl rfl rfl rfl rfl ?_
      refine pq_k (pc' := 5) (v := (0, 9)) rfl rfl rfl (fun _ => rfl) ?_
      refine pq_c_ge (pt := 77) (pc' := 8) rfl rfl rfl (fun c2 => ?_) (fun c2 => ?_)
      · have hW := hW.1 c2
        refine pq_l (pc' := 78) rfl rfl rfl rfl rfl ?_
        refine pr_gr (pc' := 81) (v := 595) rfl rfl rfl rfl rfl hv ?_
        refine pq_l (pc' := 82) rfl rfl rfl rfl rfl ?_
        refine pq_gi (pc' := 85) rfl rfl rfl rfl rfl (fun r3 => ?_)
        refine pq_k (pc' := 86) (v := (0, (-1))) rfl rfl rfl (fun _ => rfl) ?_
        refine pr_is (pc' := 87) rfl rfl (by decide) (by decide) hv (fun s4a s4b s4 s4e s4v => ?_)
        have hW := hW ⟨s4a, s4b⟩ s4 s4e
        exact pq_vret rfl ⟨rfl, s4v, hW⟩
      · have hW := hW.2 c2
        refine pq_k (pc' := 10) (v := (0, 9)) rfl rfl rfl (fun _ => rfl) ?_
        refine pq_l (pc' := 11) rfl rfl rfl rfl rfl ?_
        refine pq_gi (pc' := 14) rfl rfl rfl rfl rfl (fun r5 => ?_)
        refine pq_mul (pc' := 15) rfl rfl ?_
        refine pq_l (pc' := 16) rfl rfl rfl rfl rfl ?_
        refine pq_add (pc' := 17) rfl rfl ?_
        refine pq_s (pc' := 18) rfl rfl rfl rfl rfl ?_
        refine pq_l (pc' := 19) rfl rfl rfl rfl rfl ?_
        refine pr_gr (pc' := 22) (v := 589) rfl rfl rfl rfl rfl hv ?_
        refine pq_l (pc' := 23) rfl rfl rfl rfl rfl ?_
        refine pq_x (pc' := 24) rfl rfl rfl (fun _ => rfl) ?_
        refine pq_la (pc' := 25) rfl rfl (fun r6a r6b r6 => ?_)
        have hW := hW ⟨⟨r6a, r6b⟩, r6⟩
        refine pq_l (pc' := 26) rfl rfl rfl rfl rfl ?_
        refine pr_gr (pc' := 29) (v := 593) rfl rfl rfl rfl rfl hv ?_
        refine pq_l (pc' := 30) rfl rfl rfl rfl rfl ?_
        refine pq_gi (pc' := 33) rfl rfl rfl rfl rfl (fun r7 => ?_)
        refine pq_ia (pc' := 34) rfl rfl (fun r8a r8b r8 => ?_)
        have hW := hW ⟨⟨r8a, r8b⟩, r8⟩
        refine pq_i2l (pc' := 35) rfl rfl r8 ?_
        refine pq_l (pc' := 36) rfl rfl rfl rfl rfl ?_
        refine pr_gr (pc' := 39) (v := 590) rfl rfl rfl rfl rfl hv ?_
        refine pq_l (pc' := 40) rfl rfl rfl rfl rfl ?_
        refine pq_la (pc' := 41) rfl rfl (fun r9a r9b r9 => ?_)
        have hW := hW ⟨⟨r9a, r9b⟩, r9⟩
        refine pq_lmul (pc' := 42) rfl rfl ?_
        refine pq_ladd (pc' := 43) rfl rfl ?_
        refine pr_ls (pc' := 44) rfl rfl hv (fun s10a s10b s10 s10e s10v => ?_)
        have hW := hW ⟨s10a, s10b⟩ s10 s10e
        refine pq_l (pc' := 45) rfl rfl rfl rfl rfl ?_
        refine pq_l (pc' := 46) rfl rfl rfl rfl rfl ?_
        refine pr_gr (pc' := 49) (v := 589) rfl rfl rfl rfl rfl s10v ?_
        refine pq_l (pc' := 50) rfl rfl rfl rfl rfl ?_
        refine pq_la (pc' := 51) rfl rfl (fun r11a r11b r11 => ?_)
        have hW := hW ⟨⟨r11a, r11b⟩, r11⟩
        refine pq_cVI (pc' := 54) rfl rfl rfl rfl rfl (c_isFine10 L ys d s10 s10v (cga s10 589 (w32 ((w32 (9 * (cgf s 582 21))) + l1))) r11 _ hW) (fun z13 s12 hr => ?_)
        obtain ⟨s12v, z13r, hW⟩ := hr
        refine pq_z_ne (pt := 71) (pc' := 57) rfl rfl rfl (fun c14 => ?_) (fun c14 => ?_)
        · have hW := hW.1 c14
          refine pq_w [(0, (2, ((582 : Nat) : Int))), (1, (0, l1))] ⟨rfl, rfl, trivial⟩ ?_
          exact J71 N2 (by omega) l1 l1r s12 s12v hW
        · have hW := hW.2 c14
          refine pq_l (pc' := 58) rfl rfl rfl rfl rfl ?_
          refine pq_k (pc' := 59) (v := (0, 3)) rfl rfl rfl (fun _ => rfl) ?_
          refine pq_l (pc' := 60) rfl rfl rfl rfl rfl ?_
          refine pr_gr (pc' := 63) (v := 594) rfl rfl rfl rfl rfl s12v ?_
          refine pq_l (pc' := 64) rfl rfl rfl rfl rfl ?_
          refine pq_gi (pc' := 67) rfl rfl rfl rfl rfl (fun r15 => ?_)
          refine pq_ia (pc' := 68) rfl rfl (fun r16a r16b r16 => ?_)
          have hW := hW ⟨⟨r16a, r16b⟩, r16⟩
          refine pq_cVV (pc' := 71) rfl rfl rfl rfl rfl (c_fail10 L ys d s12 s12v 3 (⟨by decide, by decide⟩ : iR 3) (cga s12 594 (cgf s12 582 21)) r16 _ hW) (fun s17 hr => ?_)
          obtain ⟨s17v, hW⟩ := hr
          refine pq_w [(0, (2, ((582 : Nat) : Int))), (1, (0, l1))] ⟨rfl, rfl, trivial⟩ ?_
          exact J71 N2 (by omega) l1 l1r s17 s17v hW
  unfold C_endTerm10 at hW
  refine pq_k (pc' := 1) (v := (0, 0)) rfl rfl rfl (fun _ => rfl) ?_
  refine pq_s (pc' := 2) rfl rfl rfl rfl rfl ?_
  refine pq_w [(0, (2, ((582 : Nat) : Int))), (1, (0, 0))] ⟨rfl, rfl, trivial⟩ ?_
  obtain ⟨I9, hI9, hB9⟩ := hW
  exact J2 I9 hB9 N (by omega) 0 (⟨by decide, by decide⟩ : iR 0) s hv hI9
def C_endBracket10_33 (K33 : Int × im_S → Prop) (l2 : Int) (s : im_S) (Q : im_S → Prop) : Prop := ((9 ≤ l2 → (C_endBase10 s (fun s2 => (Q s2)))) ∧ (¬ (9 ≤ l2) → (caJ s 589 (w32 ((w32 (9 * (w32 ((cgf s 582 21) + 1)))) + l2)) → ((0 ≤ (w32 ((w32 (9 * (cgf s 582 21))) + l2)) ∧ (w32 ((w32 (9 * (cgf s 582 21))) + l2)) < gln 591) → ∀ s7, s7 = cpa s 591 (w32 ((w32 (9 * (cgf s 582 21))) + l2)) (cga s 589 (w32 ((w32 (9 * (w32 ((cgf s 582 21) + 1)))) + l2))) → (K33 ((w32 (l2 + 1)), s7))))))
def C_endBracket10 (l1 : Int) (s : im_S) (Q : im_S → Prop) : Prop := ((l1 = 41 → (∀ s11, s11 = cpf s 582 4 (w32 ((cgf s 582 4) + 1)) → (∀ s13, s13 = cpf s11 582 21 (w32 ((cgf s11 582 21) - 1)) → (ploop (fun (K : Int × im_S → Prop) (a : Int × im_S) => C_endBracket10_33 K a.1 a.2 Q) (0, s13))))) ∧ (¬ (l1 = 41) → (C_cannot10 s (fun s14 => (Q s14)))))
set_option maxRecDepth 16384 in
theorem c_endBracket10 (L : Nat) (ys : Nat → Int32) (d : Nat) (s : im_S) (hv : jR s) (l1 : Int) (l1r : iR l1) (Q : im_S → Prop) (hW : C_endBracket10 l1 s Q) : pcV L ys d 32 [(2, ((582 : Nat) : Int)), (0, l1)] s (fun s9 => jR s9 ∧ Q s9) := by
  intro res hres
  refine pq_start (M := rm_p_X10_endBracket) (Q := (fun r : im_Re => r.1 = none ∧ (jR r.2 ∧ Q r.2))) om_X10_endBracket (fun d N => ?_) res hres
  refine pq_w [(0, (2, ((582 : Nat) : Int))), (1, (0, l1))] ⟨rfl, rfl, trivial⟩ ?_
  have J33 : ∀ (I33 : Int × im_S → Prop) (hB33 : ∀ a : Int × im_S, I33 a → C_endBracket10_33 I33 a.1 a.2 Q), ∀ N33 : Nat, N33 ≤ N → ∀ (l2 : Int) (l2r : iR l2) (s : im_S) (hv : jR s), I33 (l2, s) → pq L ys d N33 rm_p_X10_endBracket (33, [(0, (2, ((582 : Nat) : Int))), (2, (0, l2))], [], s) (fun r : im_Re => r.1 = none ∧ (jR r.2 ∧ Q r.2)) := by
    intro I33 hB33 N33
    induction N33 using Nat.strongRecOn with
    | _ N33 ih33 =>
      intro hN33 l2 l2r s hv hI
      have hW : C_endBracket10_33 I33 l2 s Q := hB33 (l2, s) hI
      unfold C_endBracket10_33 at hW
      refine pq_l (pc' := 34) rfl rfl rfl rfl rfl ?_
      refine pq_k (pc' := 36) (v := (0, 9)) rfl rfl rfl (fun _ => rfl) ?_
      refine pq_c_ge (pt := 75) (pc' := 39) rfl rfl rfl (fun c1 => ?_) (fun c1 => ?_)
      · have hW := hW.1 c1
        refine pq_l (pc' := 76) rfl rfl rfl rfl rfl ?_
        refine pq_cVV (pc' := 79) rfl rfl rfl rfl rfl (c_endBase10 L ys d s hv  _ hW) (fun s2 hr => ?_)
        obtain ⟨s2v, hW⟩ := hr
        exact pq_vret rfl ⟨rfl, s2v, hW⟩
      · have hW := hW.2 c1
        refine pq_l (pc' := 40) rfl rfl rfl rfl rfl ?_
        refine pr_gr (pc' := 43) (v := 591) rfl rfl rfl rfl rfl hv ?_
        refine pq_k (pc' := 45) (v := (0, 9)) rfl rfl rfl (fun _ => rfl) ?_
        refine pq_l (pc' := 46) rfl rfl rfl rfl rfl ?_
        refine pq_gi (pc' := 49) rfl rfl rfl rfl rfl (fun r4 => ?_)
        refine pq_mul (pc' := 50) rfl rfl ?_
        refine pq_l (pc' := 51) rfl rfl rfl rfl rfl ?_
        refine pq_add (pc' := 52) rfl rfl ?_
        refine pq_l (pc' := 53) rfl rfl rfl rfl rfl ?_
        refine pr_gr (pc' := 56) (v := 589) rfl rfl rfl rfl rfl hv ?_
        refine pq_k (pc' := 58) (v := (0, 9)) rfl rfl rfl (fun _ => rfl) ?_
        refine pq_l (pc' := 59) rfl rfl rfl rfl rfl ?_
        refine pq_gi (pc' := 62) rfl rfl rfl rfl rfl (fun r5 => ?_)
        refine pq_k (pc' := 63) (v := (0, 1)) rfl rfl rfl (fun _ => rfl) ?_
        refine pq_add (pc' := 64) rfl rfl ?_
        refine pq_mul (pc' := 65) rfl rfl ?_
        refine pq_l (pc' := 66) rfl rfl rfl rfl rfl ?_
        refine pq_add (pc' := 67) rfl rfl ?_
        refine pq_la (pc' := 68) rfl rfl (fun r6a r6b r6 => ?_)
        have hW := hW ⟨⟨r6a, r6b⟩, r6⟩
        refine pr_ls (pc' := 69) rfl rfl hv (fun s7a s7b s7 s7e s7v => ?_)
        have hW := hW ⟨s7a, s7b⟩ s7 s7e
        refine pq_inc (pc' := 72) rfl rfl rfl rfl ?_
        refine pq_gotoT (pc' := 33) rfl rfl (fun m8 m8l => ?_)
        refine pq_w [(0, (2, ((582 : Nat) : Int))), (2, (0, (w32 (l2 + 1))))] ⟨rfl, rfl, trivial⟩ ?_
        exact ih33 m8 (by omega) (by omega) (w32 (l2 + 1)) (w32_r _) s7 s7v hW
  unfold C_endBracket10 at hW
  refine pq_l (pc' := 1) rfl rfl rfl rfl rfl ?_
  refine pq_k (pc' := 3) (v := (0, 41)) rfl rfl rfl (fun _ => rfl) ?_
  refine pq_c_eq (pt := 11) (pc' := 6) rfl rfl rfl (fun c9 => ?_) (fun c9 => ?_)
  · have hW := hW.1 c9
    refine pq_l (pc' := 12) rfl rfl rfl rfl rfl ?_
    refine pq_x (pc' := 13) rfl rfl rfl (fun _ => rfl) ?_
    refine pq_gi (pc' := 16) rfl rfl rfl rfl rfl (fun r10 => ?_)
    refine pq_k (pc' := 17) (v := (0, 1)) rfl rfl rfl (fun _ => rfl) ?_
    refine pq_add (pc' := 18) rfl rfl ?_
    refine pr_pX (pc' := 21) rfl rfl rfl rfl hv (fun s11 s11e s11v => ?_)
    have hW := hW s11 s11e
    refine pq_l (pc' := 22) rfl rfl rfl rfl rfl ?_
    refine pq_x (pc' := 23) rfl rfl rfl (fun _ => rfl) ?_
    refine pq_gi (pc' := 26) rfl rfl rfl rfl rfl (fun r12 => ?_)
    refine pq_k (pc' := 27) (v := (0, 1)) rfl rfl rfl (fun _ => rfl) ?_
    refine pq_sub (pc' := 28) rfl rfl ?_
    refine pr_pX (pc' := 31) rfl rfl rfl rfl s11v (fun s13 s13e s13v => ?_)
    have hW := hW s13 s13e
    refine pq_k (pc' := 32) (v := (0, 0)) rfl rfl rfl (fun _ => rfl) ?_
    refine pq_s (pc' := 33) rfl rfl rfl rfl rfl ?_
    refine pq_w [(0, (2, ((582 : Nat) : Int))), (2, (0, 0))] ⟨rfl, rfl, trivial⟩ ?_
    obtain ⟨I9, hI9, hB9⟩ := hW
    exact J33 I9 hB9 N (by omega) 0 (⟨by decide, by decide⟩ : iR 0) s13 s13v hI9
  · have hW := hW.2 c9
    refine pq_l (pc' := 7) rfl rfl rfl rfl rfl ?_
    refine pq_cVV (pc' := 10) rfl rfl rfl rfl rfl (c_cannot10 L ys d s hv  _ hW) (fun s14 hr => ?_)
    obtain ⟨s14v, hW⟩ := hr
    exact pq_vret rfl ⟨rfl, s14v, hW⟩
def C_takeBase10_157 (s : im_S) (Q : Int → im_S → Prop) : Prop := (Q 0 s)
def C_takeBase10_146 (s : im_S) (Q : Int → im_S → Prop) : Prop := (C_good10 s (fun z2 s1 => ((z2 = 0 → (C_takeBase10_157 s1 Q)) ∧ (¬ (z2 = 0) → (C_endBase10 s1 (fun s4 => (C_takeBase10_157 s4 Q)))))))
def C_takeBase10_2 (K2 : Int × im_S → Prop) (l1 : Int) (l2 : Int) (s : im_S) (Q : Int → im_S → Prop) : Prop := ((9 ≤ l2 → (C_isDigit10 l1 s (fun z8 s7 => ((z8 = 0 → ((¬ (l1 = 120) → ((¬ (l1 = 40) → (C_cannot10 s7 (fun s12 => (C_takeBase10_146 s12 Q)))) ∧ (l1 = 40 → ((¬ ((cgf s7 582 21) = 10) → (∀ s17, s17 = cpf s7 582 4 (w32 ((cgf s7 582 4) + 1)) → (∀ s19, s19 = cpf s17 582 21 (w32 ((cgf s17 582 21) + 1)) → (C_beginSum10 s19 (fun s20 => (Q 1 s20)))))) ∧ ((cgf s7 582 21) = 10 → (C_fail10 3 (cgf s7 582 4) s7 (fun s23 => (Q 1 s23)))))))) ∧ (l1 = 120 → ((0 ≤ (w32 ((w32 (9 * (cgf s7 582 21))) + 1)) ∧ (w32 ((w32 (9 * (cgf s7 582 21))) + 1)) < gln 591) → ∀ s26, s26 = cpa s7 591 (w32 ((w32 (9 * (cgf s7 582 21))) + 1)) 1 → (∀ s28, s28 = cpf s26 582 4 (w32 ((cgf s26 582 4) + 1)) → (C_takeBase10_146 s28 Q)))))) ∧ (¬ (z8 = 0) → (C_number10 s7 (fun z31 s30 => ((0 ≤ (w32 (9 * (cgf s7 582 21))) ∧ (w32 (9 * (cgf s7 582 21))) < gln 591) → ∀ s32, s32 = cpa s30 591 (w32 (9 * (cgf s7 582 21))) z31 → (C_takeBase10_146 s32 Q))))))))) ∧ (¬ (9 ≤ l2) → ((0 ≤ (w32 ((w32 (9 * (cgf s 582 21))) + l2)) ∧ (w32 ((w32 (9 * (cgf s 582 21))) + l2)) < gln 591) → ∀ s34, s34 = cpa s 591 (w32 ((w32 (9 * (cgf s 582 21))) + l2)) 0 → (K2 ((w32 (l2 + 1)), s34)))))
def C_takeBase10 (l1 : Int) (s : im_S) (Q : Int → im_S → Prop) : Prop := (ploop (fun (K : Int × im_S → Prop) (a : Int × im_S) => C_takeBase10_2 K l1 a.1 a.2 Q) (0, s))
set_option maxRecDepth 16384 in
theorem c_takeBase10 (L : Nat) (ys : Nat → Int32) (d : Nat) (s : im_S) (hv : jR s) (l1 : Int) (l1r : iR l1) (Q : Int → im_S → Prop) (hW : C_takeBase10 l1 s Q) : pcI L ys 0 d 100 [(2, ((582 : Nat) : Int)), (0, l1)] s (fun z9 s9 => jR s9 ∧ iR z9 ∧ Q z9 s9) := by
  intro res hres
  refine pq_start (M := rm_p_X10_takeBase) (Q := (fun r : im_Re => ∃ z, r.1 = some (0, z) ∧ (jR r.2 ∧ iR z ∧ Q z r.2))) om_X10_takeBase (fun d N => ?_) res hres
  refine pq_w [(0, (2, ((582 : Nat) : Int))), (1, (0, l1))] ⟨rfl, rfl, trivial⟩ ?_
  have J157 : ∀ N157 : Nat, N157 ≤ N → ∀ (s : im_S) (hv : jR s), C_takeBase10_157 s Q → pq L ys d N157 rm_p_X10_takeBase (157, [], [], s) (fun r : im_Re => ∃ z, r.1 = some (0, z) ∧ (jR r.2 ∧ iR z ∧ Q z r.2)) := by
    intro N157 hN157 s hv hW
    unfold C_takeBase10_157 at hW
    refine pq_k (pc' := 158) (v := (0, 0)) rfl rfl rfl (fun _ => rfl) ?_
    exact pq_iret rfl ⟨_, rfl, hv, (⟨by decide, by decide⟩ : iR 0), hW⟩
  have J146 : ∀ N146 : Nat, N146 ≤ N → ∀ (s : im_S) (hv : jR s), C_takeBase10_146 s Q → pq L ys d N146 rm_p_X10_takeBase (146, [(0, (2, ((582 : Nat) : Int)))], [], s) (fun r : im_Re => ∃ z, r.1 = some (0, z) ∧ (jR r.2 ∧ iR z ∧ Q z r.2)) := by
    intro N146 hN146 s hv hW
    unfold C_takeBase10_146 at hW
    refine pq_l (pc' := 147) rfl rfl rfl rfl rfl ?_
    refine pq_cVI (pc' := 150) rfl rfl rfl rfl rfl (c_good10 L ys d s hv  _ hW) (fun z2 s1 hr => ?_)
    obtain ⟨s1v, z2r, hW⟩ := hr
    refine pq_z_eq (pt := 157) (pc' := 153) rfl rfl rfl (fun c3 => ?_) (fun c3 => ?_)
    · have hW := hW.1 c3
      refine pq_w [] trivial ?_
      exact J157 N146 (by omega) s1 s1v hW
    · have hW := hW.2 c3
      refine pq_l (pc' := 154) rfl rfl rfl rfl rfl ?_
      refine pq_cVV (pc' := 157) rfl rfl rfl rfl rfl (c_endBase10 L ys d s1 s1v  _ hW) (fun s4 hr => ?_)
      obtain ⟨s4v, hW⟩ := hr
      refine pq_w [] trivial ?_
      exact J157 N146 (by omega) s4 s4v hW
  have J2 : ∀ (l1 : Int) (l1r : iR l1) (I2 : Int × im_S → Prop) (hB2 : ∀ a : Int × im_S, I2 a → C_takeBase10_2 I2 l1 a.1 a.2 Q), ∀ N2 : Nat, N2 ≤ N → ∀ (l2 : Int) (l2r : iR l2) (s : im_S) (hv : jR s), I2 (l2, s) → pq L ys d N2 rm_p_X10_takeBase (2, [(0, (2, ((582 : Nat) : Int))), (1, (0, l1)), (2, (0, l2))], [], s) (fun r : im_Re => ∃ z, r.1 = some (0, z) ∧ (jR r.2 ∧ iR z ∧ Q z r.2)) := by
    intro l1 l1r I2 hB2 N2
    induction N2 using Nat.strongRecOn with
    | _ N2 ih2 =>
      intro hN2 l2 l2r s hv hI
      have hW : C_takeBase10_2 I2 l1 l2 s Q := hB2 (l2, s) hI
      unfold C_takeBase10_2 at hW
      refine pq_l (pc' := 3) rfl rfl rfl rfl rfl ?_
      refine pq_k (pc' := 5) (v := (0, 9)) rfl rfl rfl (fun _ => rfl) ?_
      refine pq_c_ge (pt := 29) (pc' := 8) rfl rfl rfl (fun c6 => ?_) (fun c6 => ?_)
      · have hW := hW.1 c6
        refine pq_l (pc' := 30) rfl rfl rfl rfl rfl ?_
        refine pq_cSI (pc' := 33) rfl rfl rfl rfl rfl (c_isDigit10 L ys d s hv l1 l1r _ hW) (fun z8 s7 hr => ?_)
        obtain ⟨s7v, z8r, hW⟩ := hr
        refine pq_z_eq (pt := 56) (pc' := 36) rfl rfl rfl (fun c9 => ?_) (fun c9 => ?_)
        · have hW := hW.1 c9
          refine pq_l (pc' := 57) rfl rfl rfl rfl rfl ?_
          refine pq_k (pc' := 59) (v := (0, 120)) rfl rfl rfl (fun _ => rfl) ?_
          refine pq_c_ne (pt := 90) (pc' := 62) rfl rfl rfl (fun c10 => ?_) (fun c10 => ?_)
          · have hW := hW.1 c10
            refine pq_l (pc' := 91) rfl rfl rfl rfl rfl ?_
            refine pq_k (pc' := 93) (v := (0, 40)) rfl rfl rfl (fun _ => rfl) ?_
            refine pq_c_ne (pt := 142) (pc' := 96) rfl rfl rfl (fun c11 => ?_) (fun c11 => ?_)
            · have hW := hW.1 c11
              refine pq_l (pc' := 143) rfl rfl rfl rfl rfl ?_
              refine pq_cVV (pc' := 146) rfl rfl rfl rfl rfl (c_cannot10 L ys d s7 s7v  _ hW) (fun s12 hr => ?_)
              obtain ⟨s12v, hW⟩ := hr
              refine pq_w [(0, (2, ((582 : Nat) : Int)))] ⟨rfl, trivial⟩ ?_
              exact J146 N2 (by omega) s12 s12v hW
            · have hW := hW.2 c11
              refine pq_l (pc' := 97) rfl rfl rfl rfl rfl ?_
              refine pq_gi (pc' := 100) rfl rfl rfl rfl rfl (fun r14 => ?_)
              refine pq_k (pc' := 102) (v := (0, 10)) rfl rfl rfl (fun _ => rfl) ?_
              refine pq_c_ne (pt := 116) (pc' := 105) rfl rfl rfl (fun c15 => ?_) (fun c15 => ?_)
              · have hW := hW.1 c15
                refine pq_l (pc' := 117) rfl rfl rfl rfl rfl ?_
                refine pq_x (pc' := 118) rfl rfl rfl (fun _ => rfl) ?_
                refine pq_gi (pc' := 121) rfl rfl rfl rfl rfl (fun r16 => ?_)
                refine pq_k (pc' := 122) (v := (0, 1)) rfl rfl rfl (fun _ => rfl) ?_
                refine pq_add (pc' := 123) rfl rfl ?_
                refine pr_pX (pc' := 126) rfl rfl rfl rfl s7v (fun s17 s17e s17v => ?_)
                have hW := hW s17 s17e
                refine pq_l (pc' := 127) rfl rfl rfl rfl rfl ?_
                refine pq_x (pc' := 128) rfl rfl rfl (fun _ => rfl) ?_
                refine pq_gi (pc' := 131) rfl rfl rfl rfl rfl (fun r18 => ?_)
                refine pq_k (pc' := 132) (v := (0, 1)) rfl rfl rfl (fun _ => rfl) ?_
                refine pq_add (pc' := 133) rfl rfl ?_
                refine pr_pX (pc' := 136) rfl rfl rfl rfl s17v (fun s19 s19e s19v => ?_)
                have hW := hW s19 s19e
                refine pq_l (pc' := 137) rfl rfl rfl rfl rfl ?_
                refine pq_cVV (pc' := 140) rfl rfl rfl rfl rfl (c_beginSum10 L ys d s19 s19v  _ hW) (fun s20 hr => ?_)
                obtain ⟨s20v, hW⟩ := hr
                refine pq_k (pc' := 141) (v := (0, 1)) rfl rfl rfl (fun _ => rfl) ?_
                exact pq_iret rfl ⟨_, rfl, s20v, (⟨by decide, by decide⟩ : iR 1), hW⟩
              · have hW := hW.2 c15
                refine pq_l (pc' := 106) rfl rfl rfl rfl rfl ?_
                refine pq_k (pc' := 107) (v := (0, 3)) rfl rfl rfl (fun _ => rfl) ?_
                refine pq_l (pc' := 108) rfl rfl rfl rfl rfl ?_
                refine pq_gi (pc' := 111) rfl rfl rfl rfl rfl (fun r22 => ?_)
                refine pq_cVV (pc' := 114) rfl rfl rfl rfl rfl (c_fail10 L ys d s7 s7v 3 (⟨by decide, by decide⟩ : iR 3) (cgf s7 582 4) r22 _ hW) (fun s23 hr => ?_)
                obtain ⟨s23v, hW⟩ := hr
                refine pq_k (pc' := 115) (v := (0, 1)) rfl rfl rfl (fun _ => rfl) ?_
                exact pq_iret rfl ⟨_, rfl, s23v, (⟨by decide, by decide⟩ : iR 1), hW⟩
          · have hW := hW.2 c10
            refine pq_l (pc' := 63) rfl rfl rfl rfl rfl ?_
            refine pr_gr (pc' := 66) (v := 591) rfl rfl rfl rfl rfl s7v ?_
            refine pq_k (pc' := 68) (v := (0, 9)) rfl rfl rfl (fun _ => rfl) ?_
            refine pq_l (pc' := 69) rfl rfl rfl rfl rfl ?_
            refine pq_gi (pc' := 72) rfl rfl rfl rfl rfl (fun r25 => ?_)
            refine pq_mul (pc' := 73) rfl rfl ?_
            refine pq_k (pc' := 74) (v := (0, 1)) rfl rfl rfl (fun _ => rfl) ?_
            refine pq_add (pc' := 75) rfl rfl ?_
            refine pq_k (pc' := 76) (v := (1, 1)) rfl rfl rfl (fun _ => rfl) ?_
            refine pr_ls (pc' := 77) rfl rfl s7v (fun s26a s26b s26 s26e s26v => ?_)
            have hW := hW ⟨s26a, s26b⟩ s26 s26e
            refine pq_l (pc' := 78) rfl rfl rfl rfl rfl ?_
            refine pq_x (pc' := 79) rfl rfl rfl (fun _ => rfl) ?_
            refine pq_gi (pc' := 82) rfl rfl rfl rfl rfl (fun r27 => ?_)
            refine pq_k (pc' := 83) (v := (0, 1)) rfl rfl rfl (fun _ => rfl) ?_
            refine pq_add (pc' := 84) rfl rfl ?_
            refine pr_pX (pc' := 87) rfl rfl rfl rfl s26v (fun s28 s28e s28v => ?_)
            have hW := hW s28 s28e
            refine pq_goto (pc' := 146) rfl rfl ?_
            refine pq_w [(0, (2, ((582 : Nat) : Int)))] ⟨rfl, trivial⟩ ?_
            exact J146 N2 (by omega) s28 s28v hW
        · have hW := hW.2 c9
          refine pq_l (pc' := 37) rfl rfl rfl rfl rfl ?_
          refine pr_gr (pc' := 40) (v := 591) rfl rfl rfl rfl rfl s7v ?_
          refine pq_k (pc' := 42) (v := (0, 9)) rfl rfl rfl (fun _ => rfl) ?_
          refine pq_l (pc' := 43) rfl rfl rfl rfl rfl ?_
          refine pq_gi (pc' := 46) rfl rfl rfl rfl rfl (fun r29 => ?_)
          refine pq_mul (pc' := 47) rfl rfl ?_
          refine pq_l (pc' := 48) rfl rfl rfl rfl rfl ?_
          refine pq_cVI (pc' := 51) rfl rfl rfl rfl rfl (c_number10 L ys d s7 s7v  _ hW) (fun z31 s30 hr => ?_)
          obtain ⟨s30v, z31r, hW⟩ := hr
          refine pq_i2l (pc' := 52) rfl rfl z31r ?_
          refine pr_ls (pc' := 53) rfl rfl s30v (fun s32a s32b s32 s32e s32v => ?_)
          have hW := hW ⟨s32a, s32b⟩ s32 s32e
          refine pq_goto (pc' := 146) rfl rfl ?_
          refine pq_w [(0, (2, ((582 : Nat) : Int)))] ⟨rfl, trivial⟩ ?_
          exact J146 N2 (by omega) s32 s32v hW
      · have hW := hW.2 c6
        refine pq_l (pc' := 9) rfl rfl rfl rfl rfl ?_
        refine pr_gr (pc' := 12) (v := 591) rfl rfl rfl rfl rfl hv ?_
        refine pq_k (pc' := 14) (v := (0, 9)) rfl rfl rfl (fun _ => rfl) ?_
        refine pq_l (pc' := 15) rfl rfl rfl rfl rfl ?_
        refine pq_gi (pc' := 18) rfl rfl rfl rfl rfl (fun r33 => ?_)
        refine pq_mul (pc' := 19) rfl rfl ?_
        refine pq_l (pc' := 20) rfl rfl rfl rfl rfl ?_
        refine pq_add (pc' := 21) rfl rfl ?_
        refine pq_k (pc' := 22) (v := (1, 0)) rfl rfl rfl (fun _ => rfl) ?_
        refine pr_ls (pc' := 23) rfl rfl hv (fun s34a s34b s34 s34e s34v => ?_)
        have hW := hW ⟨s34a, s34b⟩ s34 s34e
        refine pq_inc (pc' := 26) rfl rfl rfl rfl ?_
        refine pq_gotoT (pc' := 2) rfl rfl (fun m35 m35l => ?_)
        refine pq_w [(0, (2, ((582 : Nat) : Int))), (1, (0, l1)), (2, (0, (w32 (l2 + 1))))] ⟨rfl, rfl, rfl, trivial⟩ ?_
        exact ih2 m35 (by omega) (by omega) (w32 (l2 + 1)) (w32_r _) s34 s34v hW
  unfold C_takeBase10 at hW
  refine pq_k (pc' := 1) (v := (0, 0)) rfl rfl rfl (fun _ => rfl) ?_
  refine pq_s (pc' := 2) rfl rfl rfl rfl rfl ?_
  refine pq_w [(0, (2, ((582 : Nat) : Int))), (1, (0, l1)), (2, (0, 0))] ⟨rfl, rfl, rfl, trivial⟩ ?_
  obtain ⟨I9, hI9, hB9⟩ := hW
  exact J2 l1 l1r I9 hB9 N (by omega) 0 (⟨by decide, by decide⟩ : iR 0) s hv hI9
def C_readSum10_174 (s : im_S) (Q : im_S → Prop) : Prop := (Q s)
def C_readSum10_171 (K13 : Int × Int × im_S → Prop) (l1 : Int) (l2 : Int) (s : im_S) (Q : im_S → Prop) : Prop := (K13 (l1, l2, s))
def C_readSum10_169 (K13 : Int × Int × im_S → Prop) (l1 : Int) (s : im_S) (Q : im_S → Prop) : Prop := (C_readSum10_171 K13 l1 1 s Q)
def C_readSum10_147 (K13 : Int × Int × im_S → Prop) (l1 : Int) (l2 : Int) (l3 : Int) (s : im_S) (Q : im_S → Prop) : Prop := (C_good10 s (fun z3 s2 => ((z3 = 0 → (C_readSum10_169 K13 l1 s2 Q)) ∧ (¬ (z3 = 0) → (((cgf s2 582 21) ≤ 0 → (C_readSum10_169 K13 l1 s2 Q)) ∧ (¬ ((cgf s2 582 21) ≤ 0) → (C_endBracket10 l3 s2 (fun s7 => (C_readSum10_171 K13 l1 l2 s7 Q)))))))))
def C_readSum10_99 (K13 : Int × Int × im_S → Prop) (l2 : Int) (l3 : Int) (s : im_S) (Q : im_S → Prop) : Prop := (∀ v210 : Int, v210 = (if ¬ (l3 = 43) then (-1) else 1) → ((0 ≤ (cgf s 582 21) ∧ (cgf s 582 21) < gln 593) → ∀ s212, s212 = cpa s 593 (cgf s 582 21) v210 → ((0 ≤ (cgf s212 582 21) ∧ (cgf s212 582 21) < gln 594) → ∀ s215, s215 = cpa s212 594 (cgf s212 582 21) (cgf s212 582 4) → (∀ s217, s217 = cpf s215 582 4 (w32 ((cgf s215 582 4) + 1)) → (C_readSum10_171 K13 1 l2 s217 Q)))))
def C_readSum10_13 (K13 : Int × Int × im_S → Prop) (l1 : Int) (l2 : Int) (s : im_S) (Q : im_S → Prop) : Prop := ((¬ (l2 = 0) → (C_readSum10_174 s Q)) ∧ (l2 = 0 → (C_good10 s (fun z220 s219 => ((z220 = 0 → (C_readSum10_174 s219 Q)) ∧ (¬ (z220 = 0) → (C_peek10 s219 (fun z223 s222 => ((l1 = 0 → ((¬ (z223 = 42) → (C_endTerm10 s222 (fun s226 => (C_good10 s226 (fun z229 s228 => ((z229 = 0 → (C_readSum10_147 K13 l1 l2 z223 s228 Q)) ∧ (¬ (z229 = 0) → ((z223 = 43 → (C_readSum10_99 K13 l2 z223 s228 Q)) ∧ (¬ (z223 = 43) → ((¬ (z223 = 45) → (C_readSum10_147 K13 l1 l2 z223 s228 Q)) ∧ (z223 = 45 → (C_readSum10_99 K13 l2 z223 s228 Q)))))))))))) ∧ (z223 = 42 → ((0 ≤ (cgf s222 582 21) ∧ (cgf s222 582 21) < gln 595) → ∀ s235, s235 = cpa s222 595 (cgf s222 582 21) (cgf s222 582 4) → (∀ s237, s237 = cpf s235 582 4 (w32 ((cgf s235 582 4) + 1)) → (C_readSum10_171 K13 1 l2 s237 Q)))))) ∧ (¬ (l1 = 0) → (C_takeBase10 z223 s222 (fun z239 s238 => (C_readSum10_171 K13 z239 l2 s238 Q)))))))))))))
def C_readSum10 (s : im_S) (Q : im_S → Prop) : Prop := (∀ s240, s240 = cpf s 582 21 0 → (C_beginSum10 s240 (fun s241 => (ploop (fun (K : Int × Int × im_S → Prop) (a : Int × Int × im_S) => C_readSum10_13 K a.1 a.2.1 a.2.2 Q) (1, 0, s241)))))
set_option maxRecDepth 16384 in
theorem c_readSum10 (L : Nat) (ys : Nat → Int32) (d : Nat) (s : im_S) (hv : jR s) (Q : im_S → Prop) (hW : C_readSum10 s Q) : pcV L ys d 83 [(2, ((582 : Nat) : Int))] s (fun s9 => jR s9 ∧ Q s9) := by
  intro res hres
  refine pq_start (M := rm_p_X10_readSum) (Q := (fun r : im_Re => r.1 = none ∧ (jR r.2 ∧ Q r.2))) om_X10_readSum (fun d N => ?_) res hres
  refine pq_w [(0, (2, ((582 : Nat) : Int)))] ⟨rfl, trivial⟩ ?_
  have J174 : ∀ N174 : Nat, N174 ≤ N → ∀ (s : im_S) (hv : jR s), C_readSum10_174 s Q → pq L ys d N174 rm_p_X10_readSum (174, [], [], s) (fun r : im_Re => r.1 = none ∧ (jR r.2 ∧ Q r.2)) := by
    intro N174 hN174 s hv hW
    unfold C_readSum10_174 at hW
    exact pq_vret rfl ⟨rfl, hv, hW⟩
  have J13 : ∀ (I13 : Int × Int × im_S → Prop) (hB13 : ∀ a : Int × Int × im_S, I13 a → C_readSum10_13 I13 a.1 a.2.1 a.2.2 Q), ∀ N13 : Nat, N13 ≤ N → ∀ (l1 : Int) (l1r : iR l1) (l2 : Int) (l2r : iR l2) (s : im_S) (hv : jR s), I13 (l1, l2, s) → pq L ys d N13 rm_p_X10_readSum (13, [(0, (2, ((582 : Nat) : Int))), (1, (0, l1)), (2, (0, l2))], [], s) (fun r : im_Re => r.1 = none ∧ (jR r.2 ∧ Q r.2)) := by
    intro I13 hB13 N13
    induction N13 using Nat.strongRecOn with
    | _ N13 ih13 =>
      intro hN13 l1 l1r l2 l2r s hv hI
      have hW : C_readSum10_13 I13 l1 l2 s Q := hB13 (l1, l2, s) hI
      have J171 : ∀ N171 : Nat, N171 ≤ N13 → ∀ (l1 : Int) (l1r : iR l1) (l2 : Int) (l2r : iR l2) (s : im_S) (hv : jR s), C_readSum10_171 I13 l1 l2 s Q → pq L ys d N171 rm_p_X10_readSum (171, [(0, (2, ((582 : Nat) : Int))), (1, (0, l1)), (2, (0, l2))], [], s) (fun r : im_Re => r.1 = none ∧ (jR r.2 ∧ Q r.2)) := by
        intro N171 hN171 l1 l1r l2 l2r s hv hW
        unfold C_readSum10_171 at hW
        refine pq_gotoT (pc' := 13) rfl rfl (fun m1 m1l => ?_)
        refine pq_w [(0, (2, ((582 : Nat) : Int))), (1, (0, l1)), (2, (0, l2))] ⟨rfl, rfl, rfl, trivial⟩ ?_
        exact ih13 m1 (by omega) (by omega) l1 l1r l2 l2r s hv hW
      have J169 : ∀ N169 : Nat, N169 ≤ N13 → ∀ (l1 : Int) (l1r : iR l1) (s : im_S) (hv : jR s), C_readSum10_169 I13 l1 s Q → pq L ys d N169 rm_p_X10_readSum (169, [(0, (2, ((582 : Nat) : Int))), (1, (0, l1))], [], s) (fun r : im_Re => r.1 = none ∧ (jR r.2 ∧ Q r.2)) := by
        intro N169 hN169 l1 l1r s hv hW
        unfold C_readSum10_169 at hW
        refine pq_k (pc' := 170) (v := (0, 1)) rfl rfl rfl (fun _ => rfl) ?_
        refine pq_s (pc' := 171) rfl rfl rfl rfl rfl ?_
        refine pq_w [(0, (2, ((582 : Nat) : Int))), (1, (0, l1)), (2, (0, 1))] ⟨rfl, rfl, rfl, trivial⟩ ?_
        exact J171 N169 (by omega) l1 l1r 1 (⟨by decide, by decide⟩ : iR 1) s hv hW
      have J147 : ∀ N147 : Nat, N147 ≤ N13 → ∀ (l1 : Int) (l1r : iR l1) (l2 : Int) (l2r : iR l2) (l3 : Int) (l3r : iR l3) (s : im_S) (hv : jR s), C_readSum10_147 I13 l1 l2 l3 s Q → pq L ys d N147 rm_p_X10_readSum (147, [(0, (2, ((582 : Nat) : Int))), (1, (0, l1)), (2, (0, l2)), (3, (0, l3))], [], s) (fun r : im_Re => r.1 = none ∧ (jR r.2 ∧ Q r.2)) := by
        intro N147 hN147 l1 l1r l2 l2r l3 l3r s hv hW
        unfold C_readSum10_147 at hW
        refine pq_l (pc' := 148) rfl rfl rfl rfl rfl ?_
        refine pq_cVI (pc' := 151) rfl rfl rfl rfl rfl (c_good10 L ys d s hv  _ hW) (fun z3 s2 hr => ?_)
        obtain ⟨s2v, z3r, hW⟩ := hr
        refine pq_z_eq (pt := 169) (pc' := 154) rfl rfl rfl (fun c4 => ?_) (fun c4 => ?_)
        · have hW := hW.1 c4
          refine pq_w [(0, (2, ((582 : Nat) : Int))), (1, (0, l1))] ⟨rfl, rfl, trivial⟩ ?_
          exact J169 N147 (by omega) l1 l1r s2 s2v hW
        · have hW := hW.2 c4
          refine pq_l (pc' := 155) rfl rfl rfl rfl rfl ?_
          refine pq_gi (pc' := 158) rfl rfl rfl rfl rfl (fun r5 => ?_)
          refine pq_z_le (pt := 169) (pc' := 161) rfl rfl rfl (fun c6 => ?_) (fun c6 => ?_)
          · have hW := hW.1 c6
            refine pq_w [(0, (2, ((582 : Nat) : Int))), (1, (0, l1))] ⟨rfl, rfl, trivial⟩ ?_
            exact J169 N147 (by omega) l1 l1r s2 s2v hW
          · have hW := hW.2 c6
            refine pq_l (pc' := 162) rfl rfl rfl rfl rfl ?_
            refine pq_l (pc' := 163) rfl rfl rfl rfl rfl ?_
            refine pq_cVV (pc' := 166) rfl rfl rfl rfl rfl (c_endBracket10 L ys d s2 s2v l3 l3r _ hW) (fun s7 hr => ?_)
            obtain ⟨s7v, hW⟩ := hr
            refine pq_goto (pc' := 171) rfl rfl ?_
            refine pq_w [(0, (2, ((582 : Nat) : Int))), (1, (0, l1)), (2, (0, l2))] ⟨rfl, rfl, rfl, trivial⟩ ?_
            exact J171 N147 (by omega) l1 l1r l2 l2r s7 s7v hW
      have J99 : ∀ N99 : Nat, N99 ≤ N13 → ∀ (l2 : Int) (l2r : iR l2) (l3 : Int) (l3r : iR l3) (s : im_S) (hv : jR s), C_readSum10_99 I13 l2 l3 s Q → pq L ys d N99 rm_p_X10_readSum (99, [(0, (2, ((582 : Nat) : Int))), (2, (0, l2)), (3, (0, l3))], [], s) (fun r : im_Re => r.1 = none ∧ (jR r.2 ∧ Q r.2)) := by
        intro N99 hN99 l2 l2r l3 l3r s hv hW
        unfold C_readSum10_99 at hW
        refine pq_l (pc' := 100) rfl rfl rfl rfl rfl ?_
        refine pr_gr (pc' := 103) (v := 593) rfl rfl rfl rfl rfl hv ?_
        refine pq_l (pc' := 104) rfl rfl rfl rfl rfl ?_
        refine pq_gi (pc' := 107) rfl rfl rfl rfl rfl (fun r9 => ?_)
        refine pq_l (pc' := 108) rfl rfl rfl rfl rfl ?_
        refine pq_k (pc' := 110) (v := (0, 43)) rfl rfl rfl (fun _ => rfl) ?_
        have J211 : ∀ v210 : Int, iR v210 → (((0 ≤ (cgf s 582 21) ∧ (cgf s 582 21) < gln 593) → ∀ s212, s212 = cpa s 593 (cgf s 582 21) v210 → ((0 ≤ (cgf s212 582 21) ∧ (cgf s212 582 21) < gln 594) → ∀ s215, s215 = cpa s212 594 (cgf s212 582 21) (cgf s212 582 4) → (∀ s217, s217 = cpf s215 582 4 (w32 ((cgf s215 582 4) + 1)) → (C_readSum10_171 I13 1 l2 s217 Q))))) → pq L ys d N99 rm_p_X10_readSum (118, [(0, (2, ((582 : Nat) : Int))), (2, (0, l2))], [(0, v210), (0, (cgf s 582 21)), (2, ((593 : Nat) : Int))], s) (fun r : im_Re => r.1 = none ∧ (jR r.2 ∧ Q r.2)) := by
          intro v210 v210r hW
          refine pr_is (pc' := 119) rfl rfl (by decide) (by decide) hv (fun s212a s212b s212 s212e s212v => ?_)
          have hW := hW ⟨s212a, s212b⟩ s212 s212e
          refine pq_l (pc' := 120) rfl rfl rfl rfl rfl ?_
          refine pr_gr (pc' := 123) (v := 594) rfl rfl rfl rfl rfl s212v ?_
          refine pq_l (pc' := 124) rfl rfl rfl rfl rfl ?_
          refine pq_gi (pc' := 127) rfl rfl rfl rfl rfl (fun r213 => ?_)
          refine pq_l (pc' := 128) rfl rfl rfl rfl rfl ?_
          refine pq_gi (pc' := 131) rfl rfl rfl rfl rfl (fun r214 => ?_)
          refine pr_is (pc' := 132) rfl rfl (by decide) (by decide) s212v (fun s215a s215b s215 s215e s215v => ?_)
          have hW := hW ⟨s215a, s215b⟩ s215 s215e
          refine pq_l (pc' := 133) rfl rfl rfl rfl rfl ?_
          refine pq_x (pc' := 134) rfl rfl rfl (fun _ => rfl) ?_
          refine pq_gi (pc' := 137) rfl rfl rfl rfl rfl (fun r216 => ?_)
          refine pq_k (pc' := 138) (v := (0, 1)) rfl rfl rfl (fun _ => rfl) ?_
          refine pq_add (pc' := 139) rfl rfl ?_
          refine pr_pX (pc' := 142) rfl rfl rfl rfl s215v (fun s217 s217e s217v => ?_)
          have hW := hW s217 s217e
          refine pq_k (pc' := 143) (v := (0, 1)) rfl rfl rfl (fun _ => rfl) ?_
          refine pq_s (pc' := 144) rfl rfl rfl rfl rfl ?_
          refine pq_goto (pc' := 171) rfl rfl ?_
          refine pq_w [(0, (2, ((582 : Nat) : Int))), (1, (0, 1)), (2, (0, l2))] ⟨rfl, rfl, rfl, trivial⟩ ?_
          exact J171 N99 (by omega) 1 (⟨by decide, by decide⟩ : iR 1) l2 l2r s217 s217v hW
        refine pq_c_ne (pt := 117) (pc' := 113) rfl rfl rfl (fun c10 => ?_) (fun c10 => ?_)
        · refine pq_k (pc' := 118) (v := (0, (-1))) rfl rfl rfl (fun _ => rfl) ?_
          refine pq_w [(0, (2, ((582 : Nat) : Int))), (2, (0, l2))] ⟨rfl, rfl, trivial⟩ ?_
          exact J211 (-1) (⟨by decide, by decide⟩ : iR (-1)) (hW _ (by rw [if_pos c10]))
        · refine pq_k (pc' := 114) (v := (0, 1)) rfl rfl rfl (fun _ => rfl) ?_
          refine pq_goto (pc' := 118) rfl rfl ?_
          refine pq_w [(0, (2, ((582 : Nat) : Int))), (2, (0, l2))] ⟨rfl, rfl, trivial⟩ ?_
          exact J211 1 (⟨by decide, by decide⟩ : iR 1) (hW _ (by rw [if_neg (by omega)]))
      unfold C_readSum10_13 at hW
      refine pq_l (pc' := 14) rfl rfl rfl rfl rfl ?_
      refine pq_z_ne (pt := 174) (pc' := 17) rfl rfl rfl (fun c218 => ?_) (fun c218 => ?_)
      · have hW := hW.1 c218
        refine pq_w [] trivial ?_
        exact J174 N13 (by omega) s hv hW
      · have hW := hW.2 c218
        refine pq_l (pc' := 18) rfl rfl rfl rfl rfl ?_
        refine pq_cVI (pc' := 21) rfl rfl rfl rfl rfl (c_good10 L ys d s hv  _ hW) (fun z220 s219 hr => ?_)
        obtain ⟨s219v, z220r, hW⟩ := hr
        refine pq_z_eq (pt := 174) (pc' := 24) rfl rfl rfl (fun c221 => ?_) (fun c221 => ?_)
        · have hW := hW.1 c221
          refine pq_w [] trivial ?_
          exact J174 N13 (by omega) s219 s219v hW
        · have hW := hW.2 c221
          refine pq_l (pc' := 25) rfl rfl rfl rfl rfl ?_
          refine pq_cVI (pc' := 28) rfl rfl rfl rfl rfl (c_peek10 L ys d s219 s219v  _ hW) (fun z223 s222 hr => ?_)
          obtain ⟨s222v, z223r, hW⟩ := hr
          refine pq_s (pc' := 29) rfl rfl rfl rfl rfl ?_
          refine pq_l (pc' := 30) rfl rfl rfl rfl rfl ?_
          refine pq_z_eq (pt := 42) (pc' := 33) rfl rfl rfl (fun c224 => ?_) (fun c224 => ?_)
          · have hW := hW.1 c224
            refine pq_l (pc' := 43) rfl rfl rfl rfl rfl ?_
            refine pq_k (pc' := 45) (v := (0, 42)) rfl rfl rfl (fun _ => rfl) ?_
            refine pq_c_ne (pt := 76) (pc' := 48) rfl rfl rfl (fun c225 => ?_) (fun c225 => ?_)
            · have hW := hW.1 c225
              refine pq_l (pc' := 77) rfl rfl rfl rfl rfl ?_
              refine pq_cVV (pc' := 80) rfl rfl rfl rfl rfl (c_endTerm10 L ys d s222 s222v  _ hW) (fun s226 hr => ?_)
              obtain ⟨s226v, hW⟩ := hr
              refine pq_l (pc' := 81) rfl rfl rfl rfl rfl ?_
              refine pq_cVI (pc' := 84) rfl rfl rfl rfl rfl (c_good10 L ys d s226 s226v  _ hW) (fun z229 s228 hr => ?_)
              obtain ⟨s228v, z229r, hW⟩ := hr
              refine pq_z_eq (pt := 147) (pc' := 87) rfl rfl rfl (fun c230 => ?_) (fun c230 => ?_)
              · have hW := hW.1 c230
                refine pq_w [(0, (2, ((582 : Nat) : Int))), (1, (0, l1)), (2, (0, l2)), (3, (0, z223))] ⟨rfl, rfl, rfl, rfl, trivial⟩ ?_
                exact J147 N13 (by omega) l1 l1r l2 l2r z223 z223r s228 s228v hW
              · have hW := hW.2 c230
                refine pq_l (pc' := 88) rfl rfl rfl rfl rfl ?_
                refine pq_k (pc' := 90) (v := (0, 43)) rfl rfl rfl (fun _ => rfl) ?_
                refine pq_c_eq (pt := 99) (pc' := 93) rfl rfl rfl (fun c231 => ?_) (fun c231 => ?_)
                · have hW := hW.1 c231
                  refine pq_w [(0, (2, ((582 : Nat) : Int))), (2, (0, l2)), (3, (0, z223))] ⟨rfl, rfl, rfl, trivial⟩ ?_
                  exact J99 N13 (by omega) l2 l2r z223 z223r s228 s228v hW
                · have hW := hW.2 c231
                  refine pq_l (pc' := 94) rfl rfl rfl rfl rfl ?_
                  refine pq_k (pc' := 96) (v := (0, 45)) rfl rfl rfl (fun _ => rfl) ?_
                  refine pq_c_ne (pt := 147) (pc' := 99) rfl rfl rfl (fun c232 => ?_) (fun c232 => ?_)
                  · have hW := hW.1 c232
                    refine pq_w [(0, (2, ((582 : Nat) : Int))), (1, (0, l1)), (2, (0, l2)), (3, (0, z223))] ⟨rfl, rfl, rfl, rfl, trivial⟩ ?_
                    exact J147 N13 (by omega) l1 l1r l2 l2r z223 z223r s228 s228v hW
                  · have hW := hW.2 c232
                    refine pq_w [(0, (2, ((582 : Nat) : Int))), (2, (0, l2)), (3, (0, z223))] ⟨rfl, rfl, rfl, trivial⟩ ?_
                    exact J99 N13 (by omega) l2 l2r z223 z223r s228 s228v hW
            · have hW := hW.2 c225
              refine pq_l (pc' := 49) rfl rfl rfl rfl rfl ?_
              refine pr_gr (pc' := 52) (v := 595) rfl rfl rfl rfl rfl s222v ?_
              refine pq_l (pc' := 53) rfl rfl rfl rfl rfl ?_
              refine pq_gi (pc' := 56) rfl rfl rfl rfl rfl (fun r233 => ?_)
              refine pq_l (pc' := 57) rfl rfl rfl rfl rfl ?_
              refine pq_gi (pc' := 60) rfl rfl rfl rfl rfl (fun r234 => ?_)
              refine pr_is (pc' := 61) rfl rfl (by decide) (by decide) s222v (fun s235a s235b s235 s235e s235v => ?_)
              have hW := hW ⟨s235a, s235b⟩ s235 s235e
              refine pq_l (pc' := 62) rfl rfl rfl rfl rfl ?_
              refine pq_x (pc' := 63) rfl rfl rfl (fun _ => rfl) ?_
              refine pq_gi (pc' := 66) rfl rfl rfl rfl rfl (fun r236 => ?_)
              refine pq_k (pc' := 67) (v := (0, 1)) rfl rfl rfl (fun _ => rfl) ?_
              refine pq_add (pc' := 68) rfl rfl ?_
              refine pr_pX (pc' := 71) rfl rfl rfl rfl s235v (fun s237 s237e s237v => ?_)
              have hW := hW s237 s237e
              refine pq_k (pc' := 72) (v := (0, 1)) rfl rfl rfl (fun _ => rfl) ?_
              refine pq_s (pc' := 73) rfl rfl rfl rfl rfl ?_
              refine pq_goto (pc' := 171) rfl rfl ?_
              refine pq_w [(0, (2, ((582 : Nat) : Int))), (1, (0, 1)), (2, (0, l2))] ⟨rfl, rfl, rfl, trivial⟩ ?_
              exact J171 N13 (by omega) 1 (⟨by decide, by decide⟩ : iR 1) l2 l2r s237 s237v hW
          · have hW := hW.2 c224
            refine pq_l (pc' := 34) rfl rfl rfl rfl rfl ?_
            refine pq_l (pc' := 35) rfl rfl rfl rfl rfl ?_
            refine pq_cVI (pc' := 38) rfl rfl rfl rfl rfl (c_takeBase10 L ys d s222 s222v z223 z223r _ hW) (fun z239 s238 hr => ?_)
            obtain ⟨s238v, z239r, hW⟩ := hr
            refine pq_s (pc' := 39) rfl rfl rfl rfl rfl ?_
            refine pq_goto (pc' := 171) rfl rfl ?_
            refine pq_w [(0, (2, ((582 : Nat) : Int))), (1, (0, z239)), (2, (0, l2))] ⟨rfl, rfl, rfl, trivial⟩ ?_
            exact J171 N13 (by omega) z239 z239r l2 l2r s238 s238v hW
  unfold C_readSum10 at hW
  refine pq_l (pc' := 1) rfl rfl rfl rfl rfl ?_
  refine pq_k (pc' := 2) (v := (0, 0)) rfl rfl rfl (fun _ => rfl) ?_
  refine pr_pX (pc' := 5) rfl rfl rfl rfl hv (fun s240 s240e s240v => ?_)
  have hW := hW s240 s240e
  refine pq_l (pc' := 6) rfl rfl rfl rfl rfl ?_
  refine pq_cVV (pc' := 9) rfl rfl rfl rfl rfl (c_beginSum10 L ys d s240 s240v  _ hW) (fun s241 hr => ?_)
  obtain ⟨s241v, hW⟩ := hr
  refine pq_k (pc' := 10) (v := (0, 1)) rfl rfl rfl (fun _ => rfl) ?_
  refine pq_s (pc' := 11) rfl rfl rfl rfl rfl ?_
  refine pq_k (pc' := 12) (v := (0, 0)) rfl rfl rfl (fun _ => rfl) ?_
  refine pq_s (pc' := 13) rfl rfl rfl rfl rfl ?_
  refine pq_w [(0, (2, ((582 : Nat) : Int))), (1, (0, 1)), (2, (0, 0))] ⟨rfl, rfl, rfl, trivial⟩ ?_
  obtain ⟨I9, hI9, hB9⟩ := hW
  exact J13 I9 hB9 N (by omega) 1 (⟨by decide, by decide⟩ : iR 1) 0 (⟨by decide, by decide⟩ : iR 0) s241 s241v hI9
def C_make10 (l1 : Int) (s : im_S) (Q : im_S → Prop) : Prop := ((0 ≤ (cgf s 582 10) ∧ (cgf s 582 10) < gln 586) → ∀ s2, s2 = cpa s 586 (cgf s 582 10) l1 → (∀ s4, s4 = cpf s2 582 10 (w32 ((cgf s2 582 10) + 1)) → (Q s4)))
set_option maxRecDepth 16384 in
theorem c_make10 (L : Nat) (ys : Nat → Int32) (d : Nat) (s : im_S) (hv : jR s) (l1 : Int) (l1r : iR l1) (Q : im_S → Prop) (hW : C_make10 l1 s Q) : pcV L ys d 67 [(2, ((582 : Nat) : Int)), (0, l1)] s (fun s9 => jR s9 ∧ Q s9) := by
  intro res hres
  refine pq_start (M := rm_p_X10_make) (Q := (fun r : im_Re => r.1 = none ∧ (jR r.2 ∧ Q r.2))) om_X10_make (fun d N => ?_) res hres
  refine pq_w [(0, (2, ((582 : Nat) : Int))), (1, (0, l1))] ⟨rfl, rfl, trivial⟩ ?_
  unfold C_make10 at hW
  refine pq_l (pc' := 1) rfl rfl rfl rfl rfl ?_
  refine pr_gr (pc' := 4) (v := 586) rfl rfl rfl rfl rfl hv ?_
  refine pq_l (pc' := 5) rfl rfl rfl rfl rfl ?_
  refine pq_gi (pc' := 8) rfl rfl rfl rfl rfl (fun r1 => ?_)
  refine pq_l (pc' := 9) rfl rfl rfl rfl rfl ?_
  refine pr_is (pc' := 10) rfl rfl (by decide) (by decide) hv (fun s2a s2b s2 s2e s2v => ?_)
  have hW := hW ⟨s2a, s2b⟩ s2 s2e
  refine pq_l (pc' := 11) rfl rfl rfl rfl rfl ?_
  refine pq_x (pc' := 12) rfl rfl rfl (fun _ => rfl) ?_
  refine pq_gi (pc' := 15) rfl rfl rfl rfl rfl (fun r3 => ?_)
  refine pq_k (pc' := 16) (v := (0, 1)) rfl rfl rfl (fun _ => rfl) ?_
  refine pq_add (pc' := 17) rfl rfl ?_
  refine pr_pX (pc' := 20) rfl rfl rfl rfl s2v (fun s4 s4e s4v => ?_)
  have hW := hW s4 s4e
  exact pq_vret rfl ⟨rfl, s4v, hW⟩
def C_readAtom10_206 (l1 : Int) (s : im_S) (Q : im_S → Prop) : Prop := (∀ v202 : Int, v202 = (if ¬ (l1 = 61) then (if ¬ (l1 = 60) then 2 else 1) else 0) → ((0 ≤ (cgf s 582 6) ∧ (cgf s 582 6) < gln 585) → ∀ s204, s204 = cpa s 585 (cgf s 582 6) v202 → (C_make10 (cgf s204 582 6) s204 (fun s206 => (∀ s209, s209 = cpf s206 582 6 (w32 ((cgf s206 582 6) + 1)) → (Q s209))))))
def C_readAtom10_200 (K137 : Int × im_S → Prop) (l1 : Int) (l2 : Int) (l3 : Int) (s : im_S) (Q : im_S → Prop) : Prop := (K137 ((w32 (l3 + 1)), s))
def C_readAtom10_137 (K137 : Int × im_S → Prop) (l1 : Int) (l2 : Int) (l3 : Int) (s : im_S) (Q : im_S → Prop) : Prop := ((9 ≤ l3 → (C_readAtom10_206 l1 s Q)) ∧ (¬ (9 ≤ l3) → (C_good10 s (fun z213 s212 => ((z213 = 0 → (C_readAtom10_206 l1 s212 Q)) ∧ (¬ (z213 = 0) → (caJ s212 584 (w32 ((w32 (9 * (cgf s212 582 6))) + l3)) → (caJ s212 589 l3 → ((0 ≤ (w32 ((w32 (9 * (cgf s212 582 6))) + l3)) ∧ (w32 ((w32 (9 * (cgf s212 582 6))) + l3)) < gln 584) → ∀ s218, s218 = cpa s212 584 (w32 ((w32 (9 * (cgf s212 582 6))) + l3)) (w64 ((cga s212 584 (w32 ((w32 (9 * (cgf s212 582 6))) + l3))) - (cga s212 589 l3))) → (caJ s218 584 (w32 ((w32 (9 * (cgf s218 582 6))) + l3)) → (C_isFine10 (cga s218 584 (w32 ((w32 (9 * (cgf s218 582 6))) + l3))) s218 (fun z222 s221 => ((¬ (z222 = 0) → (C_readAtom10_200 K137 l1 l2 l3 s221 Q)) ∧ (z222 = 0 → (C_fail10 3 l2 s221 (fun s224 => (C_readAtom10_200 K137 l1 l2 l3 s224 Q)))))))))))))))))
def C_readAtom10_99 (K99 : Int × im_S → Prop) (l1 : Int) (l2 : Int) (l3 : Int) (s : im_S) (Q : im_S → Prop) : Prop := ((9 ≤ l3 → (C_readSum10 s (fun s227 => (ploop (fun (K : Int × im_S → Prop) (a : Int × im_S) => C_readAtom10_137 K l1 l2 a.1 a.2 Q) (0, s227))))) ∧ (¬ (9 ≤ l3) → (caJ s 589 l3 → ((0 ≤ (w32 ((w32 (9 * (cgf s 582 6))) + l3)) ∧ (w32 ((w32 (9 * (cgf s 582 6))) + l3)) < gln 584) → ∀ s231, s231 = cpa s 584 (w32 ((w32 (9 * (cgf s 582 6))) + l3)) (cga s 589 l3) → (K99 ((w32 (l3 + 1)), s231))))))
def C_readAtom10_74 (l1 : Int) (s : im_S) (Q : im_S → Prop) : Prop := (C_good10 s (fun z234 s233 => ((¬ (z234 = 0) → (∀ s238, s238 = cpf s233 582 4 (w32 ((cgf s233 582 4) + 1)) → (ploop (fun (K : Int × im_S → Prop) (a : Int × im_S) => C_readAtom10_99 K l1 (cgf s233 582 4) a.1 a.2 Q) (0, s238)))) ∧ (z234 = 0 → (Q s233)))))
def C_readAtom10_49 (l1 : Int) (s : im_S) (Q : im_S → Prop) : Prop := (C_good10 s (fun z240 s239 => ((z240 = 0 → (C_readAtom10_74 l1 s239 Q)) ∧ (¬ (z240 = 0) → ((¬ ((cgf s239 582 6) = 10) → (C_readAtom10_74 l1 s239 Q)) ∧ ((cgf s239 582 6) = 10 → (C_fail10 3 (cgf s239 582 4) s239 (fun s245 => (C_readAtom10_74 l1 s245 Q)))))))))
def C_readAtom10_19 (k0 : Int) (s : im_S) (Q : im_S → Prop) : Prop := (C_good10 s (fun z248 s247 => ((z248 = 0 → (C_readAtom10_49 k0 s247 Q)) ∧ (¬ (z248 = 0) → ((k0 = 61 → (C_readAtom10_49 k0 s247 Q)) ∧ (¬ (k0 = 61) → ((k0 = 60 → (C_readAtom10_49 k0 s247 Q)) ∧ (¬ (k0 = 60) → ((k0 = 62 → (C_readAtom10_49 k0 s247 Q)) ∧ (¬ (k0 = 62) → (C_cannot10 s247 (fun s253 => (C_readAtom10_49 k0 s253 Q)))))))))))))
def C_readAtom10 (s : im_S) (Q : im_S → Prop) : Prop := (C_readSum10 s (fun s255 => (C_good10 s255 (fun z258 s257 => ((z258 = 0 → (C_readAtom10_19 (-1) s257 Q)) ∧ (¬ (z258 = 0) → (C_peek10 s257 (fun z261 s260 => (C_readAtom10_19 z261 s260 Q)))))))))
set_option maxRecDepth 16384 in
theorem c_readAtom10 (L : Nat) (ys : Nat → Int32) (d : Nat) (s : im_S) (hv : jR s) (Q : im_S → Prop) (hW : C_readAtom10 s Q) : pcV L ys d 82 [(2, ((582 : Nat) : Int))] s (fun s9 => jR s9 ∧ Q s9) := by
  intro res hres
  refine pq_start (M := rm_p_X10_readAtom) (Q := (fun r : im_Re => r.1 = none ∧ (jR r.2 ∧ Q r.2))) om_X10_readAtom (fun d N => ?_) res hres
  refine pq_w [(0, (2, ((582 : Nat) : Int)))] ⟨rfl, trivial⟩ ?_
  have J206 : ∀ N206 : Nat, N206 ≤ N → ∀ (l1 : Int) (l1r : iR l1) (s : im_S) (hv : jR s), C_readAtom10_206 l1 s Q → pq L ys d N206 rm_p_X10_readAtom (206, [(0, (2, ((582 : Nat) : Int))), (1, (0, l1))], [], s) (fun r : im_Re => r.1 = none ∧ (jR r.2 ∧ Q r.2)) := by
    intro N206 hN206 l1 l1r s hv hW
    unfold C_readAtom10_206 at hW
    refine pq_l (pc' := 207) rfl rfl rfl rfl rfl ?_
    refine pr_gr (pc' := 210) (v := 585) rfl rfl rfl rfl rfl hv ?_
    refine pq_l (pc' := 211) rfl rfl rfl rfl rfl ?_
    refine pq_gi (pc' := 214) rfl rfl rfl rfl rfl (fun r1 => ?_)
    refine pq_l (pc' := 215) rfl rfl rfl rfl rfl ?_
    refine pq_k (pc' := 217) (v := (0, 61)) rfl rfl rfl (fun _ => rfl) ?_
    have J203 : ∀ v202 : Int, iR v202 → (((0 ≤ (cgf s 582 6) ∧ (cgf s 582 6) < gln 585) → ∀ s204, s204 = cpa s 585 (cgf s 582 6) v202 → (C_make10 (cgf s204 582 6) s204 (fun s206 => (∀ s209, s209 = cpf s206 582 6 (w32 ((cgf s206 582 6) + 1)) → (Q s209)))))) → pq L ys d N206 rm_p_X10_readAtom (235, [(0, (2, ((582 : Nat) : Int)))], [(0, v202), (0, (cgf s 582 6)), (2, ((585 : Nat) : Int))], s) (fun r : im_Re => r.1 = none ∧ (jR r.2 ∧ Q r.2)) := by
      intro v202 v202r hW
      refine pr_is (pc' := 236) rfl rfl (by decide) (by decide) hv (fun s204a s204b s204 s204e s204v => ?_)
      have hW := hW ⟨s204a, s204b⟩ s204 s204e
      refine pq_l (pc' := 237) rfl rfl rfl rfl rfl ?_
      refine pq_l (pc' := 238) rfl rfl rfl rfl rfl ?_
      refine pq_gi (pc' := 241) rfl rfl rfl rfl rfl (fun r205 => ?_)
      refine pq_cVV (pc' := 244) rfl rfl rfl rfl rfl (c_make10 L ys d s204 s204v (cgf s204 582 6) r205 _ hW) (fun s206 hr => ?_)
      obtain ⟨s206v, hW⟩ := hr
      refine pq_l (pc' := 245) rfl rfl rfl rfl rfl ?_
      refine pq_x (pc' := 246) rfl rfl rfl (fun _ => rfl) ?_
      refine pq_gi (pc' := 249) rfl rfl rfl rfl rfl (fun r208 => ?_)
      refine pq_k (pc' := 250) (v := (0, 1)) rfl rfl rfl (fun _ => rfl) ?_
      refine pq_add (pc' := 251) rfl rfl ?_
      refine pr_pX (pc' := 254) rfl rfl rfl rfl s206v (fun s209 s209e s209v => ?_)
      have hW := hW s209 s209e
      exact pq_vret rfl ⟨rfl, s209v, hW⟩
    refine pq_c_ne (pt := 224) (pc' := 220) rfl rfl rfl (fun c2 => ?_) (fun c2 => ?_)
    · refine pq_l (pc' := 225) rfl rfl rfl rfl rfl ?_
      refine pq_k (pc' := 227) (v := (0, 60)) rfl rfl rfl (fun _ => rfl) ?_
      refine pq_c_ne (pt := 234) (pc' := 230) rfl rfl rfl (fun c3 => ?_) (fun c3 => ?_)
      · refine pq_k (pc' := 235) (v := (0, 2)) rfl rfl rfl (fun _ => rfl) ?_
        refine pq_w [(0, (2, ((582 : Nat) : Int)))] ⟨rfl, trivial⟩ ?_
        exact J203 2 (⟨by decide, by decide⟩ : iR 2) (hW _ (by rw [if_pos c2, if_pos c3]))
      · refine pq_k (pc' := 231) (v := (0, 1)) rfl rfl rfl (fun _ => rfl) ?_
        refine pq_goto (pc' := 235) rfl rfl ?_
        refine pq_w [(0, (2, ((582 : Nat) : Int)))] ⟨rfl, trivial⟩ ?_
        exact J203 1 (⟨by decide, by decide⟩ : iR 1) (hW _ (by rw [if_pos c2, if_neg (by omega)]))
    · refine pq_k (pc' := 221) (v := (0, 0)) rfl rfl rfl (fun _ => rfl) ?_
      refine pq_goto (pc' := 235) rfl rfl ?_
      refine pq_w [(0, (2, ((582 : Nat) : Int)))] ⟨rfl, trivial⟩ ?_
      exact J203 0 (⟨by decide, by decide⟩ : iR 0) (hW _ (by rw [if_neg (by omega)]))
  have J137 : ∀ (l1 : Int) (l1r : iR l1) (l2 : Int) (l2r : iR l2) (I137 : Int × im_S → Prop) (hB137 : ∀ a : Int × im_S, I137 a → C_readAtom10_137 I137 l1 l2 a.1 a.2 Q), ∀ N137 : Nat, N137 ≤ N → ∀ (l3 : Int) (l3r : iR l3) (s : im_S) (hv : jR s), I137 (l3, s) → pq L ys d N137 rm_p_X10_readAtom (137, [(0, (2, ((582 : Nat) : Int))), (1, (0, l1)), (2, (0, l2)), (3, (0, l3))], [], s) (fun r : im_Re => r.1 = none ∧ (jR r.2 ∧ Q r.2)) := by
    intro l1 l1r l2 l2r I137 hB137 N137
    induction N137 using Nat.strongRecOn with
    | _ N137 ih137 =>
      intro hN137 l3 l3r s hv hI
      have hW : C_readAtom10_137 I137 l1 l2 l3 s Q := hB137 (l3, s) hI
      have J200 : ∀ N200 : Nat, N200 ≤ N137 → ∀ (l3 : Int) (l3r : iR l3) (s : im_S) (hv : jR s), C_readAtom10_200 I137 l1 l2 l3 s Q → pq L ys d N200 rm_p_X10_readAtom (200, [(0, (2, ((582 : Nat) : Int))), (1, (0, l1)), (2, (0, l2)), (3, (0, l3))], [], s) (fun r : im_Re => r.1 = none ∧ (jR r.2 ∧ Q r.2)) := by
        intro N200 hN200 l3 l3r s hv hW
        unfold C_readAtom10_200 at hW
        refine pq_inc (pc' := 203) rfl rfl rfl rfl ?_
        refine pq_gotoT (pc' := 137) rfl rfl (fun m210 m210l => ?_)
        refine pq_w [(0, (2, ((582 : Nat) : Int))), (1, (0, l1)), (2, (0, l2)), (3, (0, (w32 (l3 + 1))))] ⟨rfl, rfl, rfl, rfl, trivial⟩ ?_
        exact ih137 m210 (by omega) (by omega) (w32 (l3 + 1)) (w32_r _) s hv hW
      unfold C_readAtom10_137 at hW
      refine pq_l (pc' := 138) rfl rfl rfl rfl rfl ?_
      refine pq_k (pc' := 140) (v := (0, 9)) rfl rfl rfl (fun _ => rfl) ?_
      refine pq_c_ge (pt := 206) (pc' := 143) rfl rfl rfl (fun c211 => ?_) (fun c211 => ?_)
      · have hW := hW.1 c211
        refine pq_w [(0, (2, ((582 : Nat) : Int))), (1, (0, l1))] ⟨rfl, rfl, trivial⟩ ?_
        exact J206 N137 (by omega) l1 l1r s hv hW
      · have hW := hW.2 c211
        refine pq_l (pc' := 144) rfl rfl rfl rfl rfl ?_
        refine pq_cVI (pc' := 147) rfl rfl rfl rfl rfl (c_good10 L ys d s hv  _ hW) (fun z213 s212 hr => ?_)
        obtain ⟨s212v, z213r, hW⟩ := hr
        refine pq_z_eq (pt := 206) (pc' := 150) rfl rfl rfl (fun c214 => ?_) (fun c214 => ?_)
        · have hW := hW.1 c214
          refine pq_w [(0, (2, ((582 : Nat) : Int))), (1, (0, l1))] ⟨rfl, rfl, trivial⟩ ?_
          exact J206 N137 (by omega) l1 l1r s212 s212v hW
        · have hW := hW.2 c214
          refine pq_l (pc' := 151) rfl rfl rfl rfl rfl ?_
          refine pr_gr (pc' := 154) (v := 584) rfl rfl rfl rfl rfl s212v ?_
          refine pq_k (pc' := 156) (v := (0, 9)) rfl rfl rfl (fun _ => rfl) ?_
          refine pq_l (pc' := 157) rfl rfl rfl rfl rfl ?_
          refine pq_gi (pc' := 160) rfl rfl rfl rfl rfl (fun r215 => ?_)
          refine pq_mul (pc' := 161) rfl rfl ?_
          refine pq_l (pc' := 162) rfl rfl rfl rfl rfl ?_
          refine pq_add (pc' := 163) rfl rfl ?_
          refine pq_x (pc' := 164) rfl rfl rfl (fun _ => rfl) ?_
          refine pq_la (pc' := 165) rfl rfl (fun r216a r216b r216 => ?_)
          have hW := hW ⟨⟨r216a, r216b⟩, r216⟩
          refine pq_l (pc' := 166) rfl rfl rfl rfl rfl ?_
          refine pr_gr (pc' := 169) (v := 589) rfl rfl rfl rfl rfl s212v ?_
          refine pq_l (pc' := 170) rfl rfl rfl rfl rfl ?_
          refine pq_la (pc' := 171) rfl rfl (fun r217a r217b r217 => ?_)
          have hW := hW ⟨⟨r217a, r217b⟩, r217⟩
          refine pq_lsub (pc' := 172) rfl rfl ?_
          refine pr_ls (pc' := 173) rfl rfl s212v (fun s218a s218b s218 s218e s218v => ?_)
          have hW := hW ⟨s218a, s218b⟩ s218 s218e
          refine pq_l (pc' := 174) rfl rfl rfl rfl rfl ?_
          refine pq_l (pc' := 175) rfl rfl rfl rfl rfl ?_
          refine pr_gr (pc' := 178) (v := 584) rfl rfl rfl rfl rfl s218v ?_
          refine pq_k (pc' := 180) (v := (0, 9)) rfl rfl rfl (fun _ => rfl) ?_
          refine pq_l (pc' := 181) rfl rfl rfl rfl rfl ?_
          refine pq_gi (pc' := 184) rfl rfl rfl rfl rfl (fun r219 => ?_)
          refine pq_mul (pc' := 185) rfl rfl ?_
          refine pq_l (pc' := 186) rfl rfl rfl rfl rfl ?_
          refine pq_add (pc' := 187) rfl rfl ?_
          refine pq_la (pc' := 188) rfl rfl (fun r220a r220b r220 => ?_)
          have hW := hW ⟨⟨r220a, r220b⟩, r220⟩
          refine pq_cVI (pc' := 191) rfl rfl rfl rfl rfl (c_isFine10 L ys d s218 s218v (cga s218 584 (w32 ((w32 (9 * (cgf s218 582 6))) + l3))) r220 _ hW) (fun z222 s221 hr => ?_)
          obtain ⟨s221v, z222r, hW⟩ := hr
          refine pq_z_ne (pt := 200) (pc' := 194) rfl rfl rfl (fun c223 => ?_) (fun c223 => ?_)
          · have hW := hW.1 c223
            refine pq_w [(0, (2, ((582 : Nat) : Int))), (1, (0, l1)), (2, (0, l2)), (3, (0, l3))] ⟨rfl, rfl, rfl, rfl, trivial⟩ ?_
            exact J200 N137 (by omega) l3 l3r s221 s221v hW
          · have hW := hW.2 c223
            refine pq_l (pc' := 195) rfl rfl rfl rfl rfl ?_
            refine pq_k (pc' := 196) (v := (0, 3)) rfl rfl rfl (fun _ => rfl) ?_
            refine pq_l (pc' := 197) rfl rfl rfl rfl rfl ?_
            refine pq_cVV (pc' := 200) rfl rfl rfl rfl rfl (c_fail10 L ys d s221 s221v 3 (⟨by decide, by decide⟩ : iR 3) l2 l2r _ hW) (fun s224 hr => ?_)
            obtain ⟨s224v, hW⟩ := hr
            refine pq_w [(0, (2, ((582 : Nat) : Int))), (1, (0, l1)), (2, (0, l2)), (3, (0, l3))] ⟨rfl, rfl, rfl, rfl, trivial⟩ ?_
            exact J200 N137 (by omega) l3 l3r s224 s224v hW
  have J99 : ∀ (l1 : Int) (l1r : iR l1) (l2 : Int) (l2r : iR l2) (I99 : Int × im_S → Prop) (hB99 : ∀ a : Int × im_S, I99 a → C_readAtom10_99 I99 l1 l2 a.1 a.2 Q), ∀ N99 : Nat, N99 ≤ N → ∀ (l3 : Int) (l3r : iR l3) (s : im_S) (hv : jR s), I99 (l3, s) → pq L ys d N99 rm_p_X10_readAtom (99, [(0, (2, ((582 : Nat) : Int))), (1, (0, l1)), (2, (0, l2)), (3, (0, l3))], [], s) (fun r : im_Re => r.1 = none ∧ (jR r.2 ∧ Q r.2)) := by
    intro l1 l1r l2 l2r I99 hB99 N99
    induction N99 using Nat.strongRecOn with
    | _ N99 ih99 =>
      intro hN99 l3 l3r s hv hI
      have hW : C_readAtom10_99 I99 l1 l2 l3 s Q := hB99 (l3, s) hI
      unfold C_readAtom10_99 at hW
      refine pq_l (pc' := 100) rfl rfl rfl rfl rfl ?_
      refine pq_k (pc' := 102) (v := (0, 9)) rfl rfl rfl (fun _ => rfl) ?_
      refine pq_c_ge (pt := 131) (pc' := 105) rfl rfl rfl (fun c226 => ?_) (fun c226 => ?_)
      · have hW := hW.1 c226
        refine pq_l (pc' := 132) rfl rfl rfl rfl rfl ?_
        refine pq_cVV (pc' := 135) rfl rfl rfl rfl rfl (c_readSum10 L ys d s hv  _ hW) (fun s227 hr => ?_)
        obtain ⟨s227v, hW⟩ := hr
        refine pq_k (pc' := 136) (v := (0, 0)) rfl rfl rfl (fun _ => rfl) ?_
        refine pq_s (pc' := 137) rfl rfl rfl rfl rfl ?_
        refine pq_w [(0, (2, ((582 : Nat) : Int))), (1, (0, l1)), (2, (0, l2)), (3, (0, 0))] ⟨rfl, rfl, rfl, rfl, trivial⟩ ?_
        obtain ⟨I9, hI9, hB9⟩ := hW
        exact J137 l1 l1r l2 l2r I9 hB9 N99 (by omega) 0 (⟨by decide, by decide⟩ : iR 0) s227 s227v hI9
      · have hW := hW.2 c226
        refine pq_l (pc' := 106) rfl rfl rfl rfl rfl ?_
        refine pr_gr (pc' := 109) (v := 584) rfl rfl rfl rfl rfl hv ?_
        refine pq_k (pc' := 111) (v := (0, 9)) rfl rfl rfl (fun _ => rfl) ?_
        refine pq_l (pc' := 112) rfl rfl rfl rfl rfl ?_
        refine pq_gi (pc' := 115) rfl rfl rfl rfl rfl (fun r229 => ?_)
        refine pq_mul (pc' := 116) rfl rfl ?_
        refine pq_l (pc' := 117) rfl rfl rfl rfl rfl ?_
        refine pq_add (pc' := 118) rfl rfl ?_
        refine pq_l (pc' := 119) rfl rfl rfl rfl rfl ?_
        refine pr_gr (pc' := 122) (v := 589) rfl rfl rfl rfl rfl hv ?_
        refine pq_l (pc' := 123) rfl rfl rfl rfl rfl ?_
        refine pq_la (pc' := 124) rfl rfl (fun r230a r230b r230 => ?_)
        have hW := hW ⟨⟨r230a, r230b⟩, r230⟩
        refine pr_ls (pc' := 125) rfl rfl hv (fun s231a s231b s231 s231e s231v => ?_)
        have hW := hW ⟨s231a, s231b⟩ s231 s231e
        refine pq_inc (pc' := 128) rfl rfl rfl rfl ?_
        refine pq_gotoT (pc' := 99) rfl rfl (fun m232 m232l => ?_)
        refine pq_w [(0, (2, ((582 : Nat) : Int))), (1, (0, l1)), (2, (0, l2)), (3, (0, (w32 (l3 + 1))))] ⟨rfl, rfl, rfl, rfl, trivial⟩ ?_
        exact ih99 m232 (by omega) (by omega) (w32 (l3 + 1)) (w32_r _) s231 s231v hW
  have J74 : ∀ N74 : Nat, N74 ≤ N → ∀ (l1 : Int) (l1r : iR l1) (s : im_S) (hv : jR s), C_readAtom10_74 l1 s Q → pq L ys d N74 rm_p_X10_readAtom (74, [(0, (2, ((582 : Nat) : Int))), (1, (0, l1))], [], s) (fun r : im_Re => r.1 = none ∧ (jR r.2 ∧ Q r.2)) := by
    intro N74 hN74 l1 l1r s hv hW
    unfold C_readAtom10_74 at hW
    refine pq_l (pc' := 75) rfl rfl rfl rfl rfl ?_
    refine pq_cVI (pc' := 78) rfl rfl rfl rfl rfl (c_good10 L ys d s hv  _ hW) (fun z234 s233 hr => ?_)
    obtain ⟨s233v, z234r, hW⟩ := hr
    refine pq_z_ne (pt := 82) (pc' := 81) rfl rfl rfl (fun c235 => ?_) (fun c235 => ?_)
    · have hW := hW.1 c235
      refine pq_l (pc' := 83) rfl rfl rfl rfl rfl ?_
      refine pq_gi (pc' := 86) rfl rfl rfl rfl rfl (fun r236 => ?_)
      refine pq_s (pc' := 87) rfl rfl rfl rfl rfl ?_
      refine pq_l (pc' := 88) rfl rfl rfl rfl rfl ?_
      refine pq_x (pc' := 89) rfl rfl rfl (fun _ => rfl) ?_
      refine pq_gi (pc' := 92) rfl rfl rfl rfl rfl (fun r237 => ?_)
      refine pq_k (pc' := 93) (v := (0, 1)) rfl rfl rfl (fun _ => rfl) ?_
      refine pq_add (pc' := 94) rfl rfl ?_
      refine pr_pX (pc' := 97) rfl rfl rfl rfl s233v (fun s238 s238e s238v => ?_)
      have hW := hW s238 s238e
      refine pq_k (pc' := 98) (v := (0, 0)) rfl rfl rfl (fun _ => rfl) ?_
      refine pq_s (pc' := 99) rfl rfl rfl rfl rfl ?_
      refine pq_w [(0, (2, ((582 : Nat) : Int))), (1, (0, l1)), (2, (0, (cgf s233 582 4))), (3, (0, 0))] ⟨rfl, rfl, rfl, rfl, trivial⟩ ?_
      obtain ⟨I9, hI9, hB9⟩ := hW
      exact J99 l1 l1r (cgf s233 582 4) r236 I9 hB9 N74 (by omega) 0 (⟨by decide, by decide⟩ : iR 0) s238 s238v hI9
    · have hW := hW.2 c235
      exact pq_vret rfl ⟨rfl, s233v, hW⟩
  have J49 : ∀ N49 : Nat, N49 ≤ N → ∀ (l1 : Int) (l1r : iR l1) (s : im_S) (hv : jR s), C_readAtom10_49 l1 s Q → pq L ys d N49 rm_p_X10_readAtom (49, [(0, (2, ((582 : Nat) : Int))), (1, (0, l1))], [], s) (fun r : im_Re => r.1 = none ∧ (jR r.2 ∧ Q r.2)) := by
    intro N49 hN49 l1 l1r s hv hW
    unfold C_readAtom10_49 at hW
    refine pq_l (pc' := 50) rfl rfl rfl rfl rfl ?_
    refine pq_cVI (pc' := 53) rfl rfl rfl rfl rfl (c_good10 L ys d s hv  _ hW) (fun z240 s239 hr => ?_)
    obtain ⟨s239v, z240r, hW⟩ := hr
    refine pq_z_eq (pt := 74) (pc' := 56) rfl rfl rfl (fun c241 => ?_) (fun c241 => ?_)
    · have hW := hW.1 c241
      refine pq_w [(0, (2, ((582 : Nat) : Int))), (1, (0, l1))] ⟨rfl, rfl, trivial⟩ ?_
      exact J74 N49 (by omega) l1 l1r s239 s239v hW
    · have hW := hW.2 c241
      refine pq_l (pc' := 57) rfl rfl rfl rfl rfl ?_
      refine pq_gi (pc' := 60) rfl rfl rfl rfl rfl (fun r242 => ?_)
      refine pq_k (pc' := 62) (v := (0, 10)) rfl rfl rfl (fun _ => rfl) ?_
      refine pq_c_ne (pt := 74) (pc' := 65) rfl rfl rfl (fun c243 => ?_) (fun c243 => ?_)
      · have hW := hW.1 c243
        refine pq_w [(0, (2, ((582 : Nat) : Int))), (1, (0, l1))] ⟨rfl, rfl, trivial⟩ ?_
        exact J74 N49 (by omega) l1 l1r s239 s239v hW
      · have hW := hW.2 c243
        refine pq_l (pc' := 66) rfl rfl rfl rfl rfl ?_
        refine pq_k (pc' := 67) (v := (0, 3)) rfl rfl rfl (fun _ => rfl) ?_
        refine pq_l (pc' := 68) rfl rfl rfl rfl rfl ?_
        refine pq_gi (pc' := 71) rfl rfl rfl rfl rfl (fun r244 => ?_)
        refine pq_cVV (pc' := 74) rfl rfl rfl rfl rfl (c_fail10 L ys d s239 s239v 3 (⟨by decide, by decide⟩ : iR 3) (cgf s239 582 4) r244 _ hW) (fun s245 hr => ?_)
        obtain ⟨s245v, hW⟩ := hr
        refine pq_w [(0, (2, ((582 : Nat) : Int))), (1, (0, l1))] ⟨rfl, rfl, trivial⟩ ?_
        exact J74 N49 (by omega) l1 l1r s245 s245v hW
  have J19 : ∀ N19 : Nat, N19 ≤ N → ∀ (k0 : Int) (k0r : iR k0) (s : im_S) (hv : jR s), C_readAtom10_19 k0 s Q → pq L ys d N19 rm_p_X10_readAtom (19, [(0, (2, ((582 : Nat) : Int)))], [(0, k0)], s) (fun r : im_Re => r.1 = none ∧ (jR r.2 ∧ Q r.2)) := by
    intro N19 hN19 k0 k0r s hv hW
    unfold C_readAtom10_19 at hW
    refine pq_s (pc' := 20) rfl rfl rfl rfl rfl ?_
    refine pq_l (pc' := 21) rfl rfl rfl rfl rfl ?_
    refine pq_cVI (pc' := 24) rfl rfl rfl rfl rfl (c_good10 L ys d s hv  _ hW) (fun z248 s247 hr => ?_)
    obtain ⟨s247v, z248r, hW⟩ := hr
    refine pq_z_eq (pt := 49) (pc' := 27) rfl rfl rfl (fun c249 => ?_) (fun c249 => ?_)
    · have hW := hW.1 c249
      refine pq_w [(0, (2, ((582 : Nat) : Int))), (1, (0, k0))] ⟨rfl, rfl, trivial⟩ ?_
      exact J49 N19 (by omega) k0 k0r s247 s247v hW
    · have hW := hW.2 c249
      refine pq_l (pc' := 28) rfl rfl rfl rfl rfl ?_
      refine pq_k (pc' := 30) (v := (0, 61)) rfl rfl rfl (fun _ => rfl) ?_
      refine pq_c_eq (pt := 49) (pc' := 33) rfl rfl rfl (fun c250 => ?_) (fun c250 => ?_)
      · have hW := hW.1 c250
        refine pq_w [(0, (2, ((582 : Nat) : Int))), (1, (0, k0))] ⟨rfl, rfl, trivial⟩ ?_
        exact J49 N19 (by omega) k0 k0r s247 s247v hW
      · have hW := hW.2 c250
        refine pq_l (pc' := 34) rfl rfl rfl rfl rfl ?_
        refine pq_k (pc' := 36) (v := (0, 60)) rfl rfl rfl (fun _ => rfl) ?_
        refine pq_c_eq (pt := 49) (pc' := 39) rfl rfl rfl (fun c251 => ?_) (fun c251 => ?_)
        · have hW := hW.1 c251
          refine pq_w [(0, (2, ((582 : Nat) : Int))), (1, (0, k0))] ⟨rfl, rfl, trivial⟩ ?_
          exact J49 N19 (by omega) k0 k0r s247 s247v hW
        · have hW := hW.2 c251
          refine pq_l (pc' := 40) rfl rfl rfl rfl rfl ?_
          refine pq_k (pc' := 42) (v := (0, 62)) rfl rfl rfl (fun _ => rfl) ?_
          refine pq_c_eq (pt := 49) (pc' := 45) rfl rfl rfl (fun c252 => ?_) (fun c252 => ?_)
          · have hW := hW.1 c252
            refine pq_w [(0, (2, ((582 : Nat) : Int))), (1, (0, k0))] ⟨rfl, rfl, trivial⟩ ?_
            exact J49 N19 (by omega) k0 k0r s247 s247v hW
          · have hW := hW.2 c252
            refine pq_l (pc' := 46) rfl rfl rfl rfl rfl ?_
            refine pq_cVV (pc' := 49) rfl rfl rfl rfl rfl (c_cannot10 L ys d s247 s247v  _ hW) (fun s253 hr => ?_)
            obtain ⟨s253v, hW⟩ := hr
            refine pq_w [(0, (2, ((582 : Nat) : Int))), (1, (0, k0))] ⟨rfl, rfl, trivial⟩ ?_
            exact J49 N19 (by omega) k0 k0r s253 s253v hW
  unfold C_readAtom10 at hW
  refine pq_l (pc' := 1) rfl rfl rfl rfl rfl ?_
  refine pq_cVV (pc' := 4) rfl rfl rfl rfl rfl (c_readSum10 L ys d s hv  _ hW) (fun s255 hr => ?_)
  obtain ⟨s255v, hW⟩ := hr
  refine pq_l (pc' := 5) rfl rfl rfl rfl rfl ?_
  refine pq_cVI (pc' := 8) rfl rfl rfl rfl rfl (c_good10 L ys d s255 s255v  _ hW) (fun z258 s257 hr => ?_)
  obtain ⟨s257v, z258r, hW⟩ := hr
  refine pq_z_eq (pt := 18) (pc' := 11) rfl rfl rfl (fun c259 => ?_) (fun c259 => ?_)
  · have hW := hW.1 c259
    refine pq_k (pc' := 19) (v := (0, (-1))) rfl rfl rfl (fun _ => rfl) ?_
    refine pq_w [(0, (2, ((582 : Nat) : Int)))] ⟨rfl, trivial⟩ ?_
    exact J19 N (by omega) (-1) (⟨by decide, by decide⟩ : iR (-1)) s257 s257v hW
  · have hW := hW.2 c259
    refine pq_l (pc' := 12) rfl rfl rfl rfl rfl ?_
    refine pq_cVI (pc' := 15) rfl rfl rfl rfl rfl (c_peek10 L ys d s257 s257v  _ hW) (fun z261 s260 hr => ?_)
    obtain ⟨s260v, z261r, hW⟩ := hr
    refine pq_goto (pc' := 19) rfl rfl ?_
    refine pq_w [(0, (2, ((582 : Nat) : Int)))] ⟨rfl, trivial⟩ ?_
    exact J19 N (by omega) z261 z261r s260 s260v hW
def C_wait110 (l1 : Int) (s : im_S) (Q : im_S → Prop) : Prop := ((0 ≤ (cgf s 582 12) ∧ (cgf s 582 12) < gln 587) → ∀ s2, s2 = cpa s 587 (cgf s 582 12) l1 → (∀ s4, s4 = cpf s2 582 12 (w32 ((cgf s2 582 12) + 1)) → (Q s4)))
set_option maxRecDepth 16384 in
theorem c_wait110 (L : Nat) (ys : Nat → Int32) (d : Nat) (s : im_S) (hv : jR s) (l1 : Int) (l1r : iR l1) (Q : im_S → Prop) (hW : C_wait110 l1 s Q) : pcV L ys d 105 [(2, ((582 : Nat) : Int)), (0, l1)] s (fun s9 => jR s9 ∧ Q s9) := by
  intro res hres
  refine pq_start (M := rm_p_X10_wait1) (Q := (fun r : im_Re => r.1 = none ∧ (jR r.2 ∧ Q r.2))) om_X10_wait1 (fun d N => ?_) res hres
  refine pq_w [(0, (2, ((582 : Nat) : Int))), (1, (0, l1))] ⟨rfl, rfl, trivial⟩ ?_
  unfold C_wait110 at hW
  refine pq_l (pc' := 1) rfl rfl rfl rfl rfl ?_
  refine pr_gr (pc' := 4) (v := 587) rfl rfl rfl rfl rfl hv ?_
  refine pq_l (pc' := 5) rfl rfl rfl rfl rfl ?_
  refine pq_gi (pc' := 8) rfl rfl rfl rfl rfl (fun r1 => ?_)
  refine pq_l (pc' := 9) rfl rfl rfl rfl rfl ?_
  refine pr_is (pc' := 10) rfl rfl (by decide) (by decide) hv (fun s2a s2b s2 s2e s2v => ?_)
  have hW := hW ⟨s2a, s2b⟩ s2 s2e
  refine pq_l (pc' := 11) rfl rfl rfl rfl rfl ?_
  refine pq_x (pc' := 12) rfl rfl rfl (fun _ => rfl) ?_
  refine pq_gi (pc' := 15) rfl rfl rfl rfl rfl (fun r3 => ?_)
  refine pq_k (pc' := 16) (v := (0, 1)) rfl rfl rfl (fun _ => rfl) ?_
  refine pq_add (pc' := 17) rfl rfl ?_
  refine pr_pX (pc' := 20) rfl rfl rfl rfl s2v (fun s4 s4e s4v => ?_)
  have hW := hW s4 s4e
  exact pq_vret rfl ⟨rfl, s4v, hW⟩
def C_settle10_64 (s : im_S) (Q : im_S → Prop) : Prop := (Q s)
def C_settle10_0 (K0 : im_S → Prop) (l1 : Int) (s : im_S) (Q : im_S → Prop) : Prop := (((cgf s 582 12) ≤ 0 → (C_settle10_64 s Q)) ∧ (¬ ((cgf s 582 12) ≤ 0) → (caI s 587 (w32 ((cgf s 582 12) - 1)) → (((cga s 587 (w32 ((cgf s 582 12) - 1))) < l1 → (C_settle10_64 s Q)) ∧ (¬ ((cga s 587 (w32 ((cgf s 582 12) - 1))) < l1) → (caI s 587 (w32 ((cgf s 582 12) - 1)) → (((cga s 587 (w32 ((cgf s 582 12) - 1))) = (-4) → (C_settle10_64 s Q)) ∧ (¬ ((cga s 587 (w32 ((cgf s 582 12) - 1))) = (-4)) → (∀ s10, s10 = cpf s 582 12 (w32 ((cgf s 582 12) - 1)) → (caI s10 587 (cgf s10 582 12) → (C_make10 (cga s10 587 (cgf s10 582 12)) s10 (fun s13 => (K0 (s13))))))))))))))
def C_settle10 (l1 : Int) (s : im_S) (Q : im_S → Prop) : Prop := (ploop (fun (K : im_S → Prop) (a : im_S) => C_settle10_0 K l1 a Q) (s))
set_option maxRecDepth 16384 in
theorem c_settle10 (L : Nat) (ys : Nat → Int32) (d : Nat) (s : im_S) (hv : jR s) (l1 : Int) (l1r : iR l1) (Q : im_S → Prop) (hW : C_settle10 l1 s Q) : pcV L ys d 91 [(2, ((582 : Nat) : Int)), (0, l1)] s (fun s9 => jR s9 ∧ Q s9) := by
  intro res hres
  refine pq_start (M := rm_p_X10_settle) (Q := (fun r : im_Re => r.1 = none ∧ (jR r.2 ∧ Q r.2))) om_X10_settle (fun d N => ?_) res hres
  refine pq_w [(0, (2, ((582 : Nat) : Int))), (1, (0, l1))] ⟨rfl, rfl, trivial⟩ ?_
  have J64 : ∀ N64 : Nat, N64 ≤ N → ∀ (s : im_S) (hv : jR s), C_settle10_64 s Q → pq L ys d N64 rm_p_X10_settle (64, [], [], s) (fun r : im_Re => r.1 = none ∧ (jR r.2 ∧ Q r.2)) := by
    intro N64 hN64 s hv hW
    unfold C_settle10_64 at hW
    exact pq_vret rfl ⟨rfl, hv, hW⟩
  have J0 : ∀ (l1 : Int) (l1r : iR l1) (I0 : im_S → Prop) (hB0 : ∀ a : im_S, I0 a → C_settle10_0 I0 l1 a Q), ∀ N0 : Nat, N0 ≤ N → ∀ (s : im_S) (hv : jR s), I0 (s) → pq L ys d N0 rm_p_X10_settle (0, [(0, (2, ((582 : Nat) : Int))), (1, (0, l1))], [], s) (fun r : im_Re => r.1 = none ∧ (jR r.2 ∧ Q r.2)) := by
    intro l1 l1r I0 hB0 N0
    induction N0 using Nat.strongRecOn with
    | _ N0 ih0 =>
      intro hN0 s hv hI
      have hW : C_settle10_0 I0 l1 s Q := hB0 (s) hI
      unfold C_settle10_0 at hW
      refine pq_l (pc' := 1) rfl rfl rfl rfl rfl ?_
      refine pq_gi (pc' := 4) rfl rfl rfl rfl rfl (fun r1 => ?_)
      refine pq_z_le (pt := 64) (pc' := 7) rfl rfl rfl (fun c2 => ?_) (fun c2 => ?_)
      · have hW := hW.1 c2
        refine pq_w [] trivial ?_
        exact J64 N0 (by omega) s hv hW
      · have hW := hW.2 c2
        refine pq_l (pc' := 8) rfl rfl rfl rfl rfl ?_
        refine pr_gr (pc' := 11) (v := 587) rfl rfl rfl rfl rfl hv ?_
        refine pq_l (pc' := 12) rfl rfl rfl rfl rfl ?_
        refine pq_gi (pc' := 15) rfl rfl rfl rfl rfl (fun r3 => ?_)
        refine pq_k (pc' := 16) (v := (0, 1)) rfl rfl rfl (fun _ => rfl) ?_
        refine pq_sub (pc' := 17) rfl rfl ?_
        refine pq_ia (pc' := 18) rfl rfl (fun r4a r4b r4 => ?_)
        have hW := hW ⟨⟨r4a, r4b⟩, r4⟩
        refine pq_l (pc' := 19) rfl rfl rfl rfl rfl ?_
        refine pq_c_lt (pt := 64) (pc' := 22) rfl rfl rfl (fun c5 => ?_) (fun c5 => ?_)
        · have hW := hW.1 c5
          refine pq_w [] trivial ?_
          exact J64 N0 (by omega) s hv hW
        · have hW := hW.2 c5
          refine pq_l (pc' := 23) rfl rfl rfl rfl rfl ?_
          refine pr_gr (pc' := 26) (v := 587) rfl rfl rfl rfl rfl hv ?_
          refine pq_l (pc' := 27) rfl rfl rfl rfl rfl ?_
          refine pq_gi (pc' := 30) rfl rfl rfl rfl rfl (fun r6 => ?_)
          refine pq_k (pc' := 31) (v := (0, 1)) rfl rfl rfl (fun _ => rfl) ?_
          refine pq_sub (pc' := 32) rfl rfl ?_
          refine pq_ia (pc' := 33) rfl rfl (fun r7a r7b r7 => ?_)
          have hW := hW ⟨⟨r7a, r7b⟩, r7⟩
          refine pq_k (pc' := 35) (v := (0, (-4))) rfl rfl rfl (fun _ => rfl) ?_
          refine pq_c_eq (pt := 64) (pc' := 38) rfl rfl rfl (fun c8 => ?_) (fun c8 => ?_)
          · have hW := hW.1 c8
            refine pq_w [] trivial ?_
            exact J64 N0 (by omega) s hv hW
          · have hW := hW.2 c8
            refine pq_l (pc' := 39) rfl rfl rfl rfl rfl ?_
            refine pq_x (pc' := 40) rfl rfl rfl (fun _ => rfl) ?_
            refine pq_gi (pc' := 43) rfl rfl rfl rfl rfl (fun r9 => ?_)
            refine pq_k (pc' := 44) (v := (0, 1)) rfl rfl rfl (fun _ => rfl) ?_
            refine pq_sub (pc' := 45) rfl rfl ?_
            refine pr_pX (pc' := 48) rfl rfl rfl rfl hv (fun s10 s10e s10v => ?_)
            have hW := hW s10 s10e
            refine pq_l (pc' := 49) rfl rfl rfl rfl rfl ?_
            refine pq_l (pc' := 50) rfl rfl rfl rfl rfl ?_
            refine pr_gr (pc' := 53) (v := 587) rfl rfl rfl rfl rfl s10v ?_
            refine pq_l (pc' := 54) rfl rfl rfl rfl rfl ?_
            refine pq_gi (pc' := 57) rfl rfl rfl rfl rfl (fun r11 => ?_)
            refine pq_ia (pc' := 58) rfl rfl (fun r12a r12b r12 => ?_)
            have hW := hW ⟨⟨r12a, r12b⟩, r12⟩
            refine pq_cVV (pc' := 61) rfl rfl rfl rfl rfl (c_make10 L ys d s10 s10v (cga s10 587 (cgf s10 582 12)) r12 _ hW) (fun s13 hr => ?_)
            obtain ⟨s13v, hW⟩ := hr
            refine pq_gotoT (pc' := 0) rfl rfl (fun m15 m15l => ?_)
            refine pq_w [(0, (2, ((582 : Nat) : Int))), (1, (0, l1))] ⟨rfl, rfl, trivial⟩ ?_
            exact ih0 m15 (by omega) (by omega) s13 s13v hW
  unfold C_settle10 at hW
  refine pq_w [(0, (2, ((582 : Nat) : Int))), (1, (0, l1))] ⟨rfl, rfl, trivial⟩ ?_
  obtain ⟨I9, hI9, hB9⟩ := hW
  exact J0 l1 l1r I9 hB9 N (by omega) s hv hI9
def C_readText10_292 (s : im_S) (Q : im_S → Prop) : Prop := (C_settle10 (-3) s (fun s1 => (Q s1)))
def C_readText10_289 (K24 : Int × Int × Int × Int × im_S → Prop) (l1 : Int) (l2 : Int) (l3 : Int) (l4 : Int) (s : im_S) (Q : im_S → Prop) : Prop := (K24 (l1, l2, l3, l4, s))
def C_readText10_285 (K24 : Int × Int × Int × Int × im_S → Prop) (l1 : Int) (l2 : Int) (l3 : Int) (l4 : Int) (s : im_S) (Q : im_S → Prop) : Prop := (C_cannot10 s (fun s4 => (C_readText10_289 K24 l1 l2 l3 l4 s4 Q)))
def C_readText10_272 (K24 : Int × Int × Int × Int × im_S → Prop) (l1 : Int) (l2 : Int) (l3 : Int) (l5 : Int) (s : im_S) (Q : im_S → Prop) : Prop := ((¬ (l5 = (-1)) → (C_readText10_285 K24 l1 l2 l3 1 s Q)) ∧ (l5 = (-1) → ((l1 ≤ 0 → (C_readText10_289 K24 l1 l2 l3 1 s Q)) ∧ (¬ (l1 ≤ 0) → (C_readText10_285 K24 l1 l2 l3 1 s Q)))))
def C_readText10_173 (K24 : Int × Int × Int × Int × im_S → Prop) (l1 : Int) (l2 : Int) (l4 : Int) (l5 : Int) (s : im_S) (Q : im_S → Prop) : Prop := (∀ v208 : Int, v208 = (if ¬ (l5 = 38) then (-3) else (-2)) → (C_settle10 v208 s (fun s210 => (∀ v412 : Int, v412 = (if ¬ (l5 = 38) then (-3) else (-2)) → (C_wait110 v412 s210 (fun s414 => (∀ s417, s417 = cpf s414 582 4 (w32 ((cgf s414 582 4) + 1)) → (C_readText10_289 K24 l1 l2 1 l4 s417 Q))))))))
def C_readText10_139 (K24 : Int × Int × Int × Int × im_S → Prop) (l1 : Int) (l2 : Int) (l3 : Int) (l4 : Int) (l5 : Int) (s : im_S) (Q : im_S → Prop) : Prop := ((l3 = 0 → ((l5 = 38 → (C_readText10_173 K24 l1 l2 l4 l5 s Q)) ∧ (¬ (l5 = 38) → ((¬ (l5 = 124) → ((¬ (l5 = 93) → (C_readText10_272 K24 l1 l2 l3 l5 s Q)) ∧ (l5 = 93 → ((l1 ≤ 0 → (C_readText10_272 K24 l1 l2 l3 l5 s Q)) ∧ (¬ (l1 ≤ 0) → (C_settle10 (-3) s (fun s423 => (∀ s426, s426 = cpf s423 582 12 (w32 ((cgf s423 582 12) - 1)) → (∀ s428, s428 = cpf s426 582 4 (w32 ((cgf s426 582 4) + 1)) → (C_settle10 (-1) s428 (fun s429 => (C_readText10_289 K24 (w32 (l1 + (-1))) l2 l3 l4 s429 Q)))))))))))) ∧ (l5 = 124 → (C_readText10_173 K24 l1 l2 l4 l5 s Q)))))) ∧ (¬ (l3 = 0) → (C_readAtom10 s (fun s431 => (C_settle10 (-1) s431 (fun s433 => (C_readText10_289 K24 l1 0 0 l4 s433 Q)))))))
def C_readText10_118 (K24 : Int × Int × Int × Int × im_S → Prop) (l1 : Int) (l3 : Int) (l4 : Int) (s : im_S) (Q : im_S → Prop) : Prop := (C_wait110 (-4) s (fun s435 => (∀ s438, s438 = cpf s435 582 4 (w32 ((cgf s435 582 4) + 1)) → (C_readText10_289 K24 l1 0 l3 l4 s438 Q))))
def C_readText10_89 (K24 : Int × Int × Int × Int × im_S → Prop) (l1 : Int) (l2 : Int) (l3 : Int) (l4 : Int) (l5 : Int) (s : im_S) (Q : im_S → Prop) : Prop := ((l3 = 0 → (C_readText10_139 K24 l1 l2 l3 l4 l5 s Q)) ∧ (¬ (l3 = 0) → ((¬ (l5 = 91) → (C_readText10_139 K24 l1 l2 l3 l4 l5 s Q)) ∧ (l5 = 91 → (((w32 (l1 + 1)) ≤ 10 → (C_readText10_118 K24 (w32 (l1 + 1)) l3 l4 s Q)) ∧ (¬ ((w32 (l1 + 1)) ≤ 10) → (C_fail10 3 (cgf s 582 4) s (fun s443 => (C_readText10_118 K24 (w32 (l1 + 1)) l3 l4 s443 Q)))))))))
def C_readText10_71 (K24 : Int × Int × Int × Int × im_S → Prop) (l1 : Int) (l2 : Int) (l3 : Int) (l4 : Int) (s : im_S) (Q : im_S → Prop) : Prop := (C_wait110 (-1) s (fun s445 => (∀ s448, s448 = cpf s445 582 4 (w32 ((cgf s445 582 4) + 1)) → (C_readText10_289 K24 l1 l2 l3 l4 s448 Q))))
def C_readText10_24 (K24 : Int × Int × Int × Int × im_S → Prop) (l1 : Int) (l2 : Int) (l3 : Int) (l4 : Int) (s : im_S) (Q : im_S → Prop) : Prop := ((¬ (l4 = 0) → (C_readText10_292 s Q)) ∧ (l4 = 0 → (C_good10 s (fun z451 s450 => ((z451 = 0 → (C_readText10_292 s450 Q)) ∧ (¬ (z451 = 0) → (C_peek10 s450 (fun z454 s453 => ((l3 = 0 → (C_readText10_89 K24 l1 l2 l3 l4 z454 s453 Q)) ∧ (¬ (l3 = 0) → ((¬ (z454 = 126) → (C_readText10_89 K24 l1 l2 l3 l4 z454 s453 Q)) ∧ (z454 = 126 → (((w32 (l2 + 1)) ≤ 10 → (C_readText10_71 K24 l1 (w32 (l2 + 1)) l3 l4 s453 Q)) ∧ (¬ ((w32 (l2 + 1)) ≤ 10) → (C_fail10 3 (cgf s453 582 4) s453 (fun s459 => (C_readText10_71 K24 l1 (w32 (l2 + 1)) l3 l4 s459 Q)))))))))))))))))
def C_readText10 (s : im_S) (Q : im_S → Prop) : Prop := (∀ s461, s461 = cpf s 582 10 0 → (∀ s462, s462 = cpf s461 582 12 0 → (∀ s463, s463 = cpf s462 582 6 0 → (ploop (fun (K : Int × Int × Int × Int × im_S → Prop) (a : Int × Int × Int × Int × im_S) => C_readText10_24 K a.1 a.2.1 a.2.2.1 a.2.2.2.1 a.2.2.2.2 Q) (0, 0, 1, 0, s463)))))
set_option maxRecDepth 16384 in
theorem c_readText10 (L : Nat) (ys : Nat → Int32) (d : Nat) (s : im_S) (hv : jR s) (Q : im_S → Prop) (hW : C_readText10 s Q) : pcV L ys d 84 [(2, ((582 : Nat) : Int))] s (fun s9 => jR s9 ∧ Q s9) := by
  intro res hres
  refine pq_start (M := rm_p_X10_readText) (Q := (fun r : im_Re => r.1 = none ∧ (jR r.2 ∧ Q r.2))) om_X10_readText (fun d N => ?_) res hres
  refine pq_w [(0, (2, ((582 : Nat) : Int)))] ⟨rfl, trivial⟩ ?_
  have J292 : ∀ N292 : Nat, N292 ≤ N → ∀ (s : im_S) (hv : jR s), C_readText10_292 s Q → pq L ys d N292 rm_p_X10_readText (292, [(0, (2, ((582 : Nat) : Int)))], [], s) (fun r : im_Re => r.1 = none ∧ (jR r.2 ∧ Q r.2)) := by
    intro N292 hN292 s hv hW
    unfold C_readText10_292 at hW
    refine pq_l (pc' := 293) rfl rfl rfl rfl rfl ?_
    refine pq_k (pc' := 295) (v := (0, (-3))) rfl rfl rfl (fun _ => rfl) ?_
    refine pq_cVV (pc' := 298) rfl rfl rfl rfl rfl (c_settle10 L ys d s hv (-3) (⟨by decide, by decide⟩ : iR (-3)) _ hW) (fun s1 hr => ?_)
    obtain ⟨s1v, hW⟩ := hr
    exact pq_vret rfl ⟨rfl, s1v, hW⟩
  have J24 : ∀ (I24 : Int × Int × Int × Int × im_S → Prop) (hB24 : ∀ a : Int × Int × Int × Int × im_S, I24 a → C_readText10_24 I24 a.1 a.2.1 a.2.2.1 a.2.2.2.1 a.2.2.2.2 Q), ∀ N24 : Nat, N24 ≤ N → ∀ (l1 : Int) (l1r : iR l1) (l2 : Int) (l2r : iR l2) (l3 : Int) (l3r : iR l3) (l4 : Int) (l4r : iR l4) (s : im_S) (hv : jR s), I24 (l1, l2, l3, l4, s) → pq L ys d N24 rm_p_X10_readText (24, [(0, (2, ((582 : Nat) : Int))), (1, (0, l1)), (2, (0, l2)), (3, (0, l3)), (4, (0, l4))], [], s) (fun r : im_Re => r.1 = none ∧ (jR r.2 ∧ Q r.2)) := by
    intro I24 hB24 N24
    induction N24 using Nat.strongRecOn with
    | _ N24 ih24 =>
      intro hN24 l1 l1r l2 l2r l3 l3r l4 l4r s hv hI
      have hW : C_readText10_24 I24 l1 l2 l3 l4 s Q := hB24 (l1, l2, l3, l4, s) hI
      have J289 : ∀ N289 : Nat, N289 ≤ N24 → ∀ (l1 : Int) (l1r : iR l1) (l2 : Int) (l2r : iR l2) (l3 : Int) (l3r : iR l3) (l4 : Int) (l4r : iR l4) (s : im_S) (hv : jR s), C_readText10_289 I24 l1 l2 l3 l4 s Q → pq L ys d N289 rm_p_X10_readText (289, [(0, (2, ((582 : Nat) : Int))), (1, (0, l1)), (2, (0, l2)), (3, (0, l3)), (4, (0, l4))], [], s) (fun r : im_Re => r.1 = none ∧ (jR r.2 ∧ Q r.2)) := by
        intro N289 hN289 l1 l1r l2 l2r l3 l3r l4 l4r s hv hW
        unfold C_readText10_289 at hW
        refine pq_gotoT (pc' := 24) rfl rfl (fun m3 m3l => ?_)
        refine pq_w [(0, (2, ((582 : Nat) : Int))), (1, (0, l1)), (2, (0, l2)), (3, (0, l3)), (4, (0, l4))] ⟨rfl, rfl, rfl, rfl, rfl, trivial⟩ ?_
        exact ih24 m3 (by omega) (by omega) l1 l1r l2 l2r l3 l3r l4 l4r s hv hW
      have J285 : ∀ N285 : Nat, N285 ≤ N24 → ∀ (l1 : Int) (l1r : iR l1) (l2 : Int) (l2r : iR l2) (l3 : Int) (l3r : iR l3) (l4 : Int) (l4r : iR l4) (s : im_S) (hv : jR s), C_readText10_285 I24 l1 l2 l3 l4 s Q → pq L ys d N285 rm_p_X10_readText (285, [(0, (2, ((582 : Nat) : Int))), (1, (0, l1)), (2, (0, l2)), (3, (0, l3)), (4, (0, l4))], [], s) (fun r : im_Re => r.1 = none ∧ (jR r.2 ∧ Q r.2)) := by
        intro N285 hN285 l1 l1r l2 l2r l3 l3r l4 l4r s hv hW
        unfold C_readText10_285 at hW
        refine pq_l (pc' := 286) rfl rfl rfl rfl rfl ?_
        refine pq_cVV (pc' := 289) rfl rfl rfl rfl rfl (c_cannot10 L ys d s hv  _ hW) (fun s4 hr => ?_)
        obtain ⟨s4v, hW⟩ := hr
        refine pq_w [(0, (2, ((582 : Nat) : Int))), (1, (0, l1)), (2, (0, l2)), (3, (0, l3)), (4, (0, l4))] ⟨rfl, rfl, rfl, rfl, rfl, trivial⟩ ?_
        exact J289 N285 (by omega) l1 l1r l2 l2r l3 l3r l4 l4r s4 s4v hW
      have J272 : ∀ N272 : Nat, N272 ≤ N24 → ∀ (l1 : Int) (l1r : iR l1) (l2 : Int) (l2r : iR l2) (l3 : Int) (l3r : iR l3) (l5 : Int) (l5r : iR l5) (s : im_S) (hv : jR s), C_readText10_272 I24 l1 l2 l3 l5 s Q → pq L ys d N272 rm_p_X10_readText (272, [(0, (2, ((582 : Nat) : Int))), (1, (0, l1)), (2, (0, l2)), (3, (0, l3)), (5, (0, l5))], [], s) (fun r : im_Re => r.1 = none ∧ (jR r.2 ∧ Q r.2)) := by
        intro N272 hN272 l1 l1r l2 l2r l3 l3r l5 l5r s hv hW
        unfold C_readText10_272 at hW
        refine pq_k (pc' := 273) (v := (0, 1)) rfl rfl rfl (fun _ => rfl) ?_
        refine pq_s (pc' := 275) rfl rfl rfl rfl rfl ?_
        refine pq_l (pc' := 277) rfl rfl rfl rfl rfl ?_
        refine pq_k (pc' := 278) (v := (0, (-1))) rfl rfl rfl (fun _ => rfl) ?_
        refine pq_c_ne (pt := 285) (pc' := 281) rfl rfl rfl (fun c6 => ?_) (fun c6 => ?_)
        · have hW := hW.1 c6
          refine pq_w [(0, (2, ((582 : Nat) : Int))), (1, (0, l1)), (2, (0, l2)), (3, (0, l3)), (4, (0, 1))] ⟨rfl, rfl, rfl, rfl, rfl, trivial⟩ ?_
          exact J285 N272 (by omega) l1 l1r l2 l2r l3 l3r 1 (⟨by decide, by decide⟩ : iR 1) s hv hW
        · have hW := hW.2 c6
          refine pq_l (pc' := 282) rfl rfl rfl rfl rfl ?_
          refine pq_z_le (pt := 289) (pc' := 285) rfl rfl rfl (fun c7 => ?_) (fun c7 => ?_)
          · have hW := hW.1 c7
            refine pq_w [(0, (2, ((582 : Nat) : Int))), (1, (0, l1)), (2, (0, l2)), (3, (0, l3)), (4, (0, 1))] ⟨rfl, rfl, rfl, rfl, rfl, trivial⟩ ?_
            exact J289 N272 (by omega) l1 l1r l2 l2r l3 l3r 1 (⟨by decide, by decide⟩ : iR 1) s hv hW
          · have hW := hW.2 c7
            refine pq_w [(0, (2, ((582 : Nat) : Int))), (1, (0, l1)), (2, (0, l2)), (3, (0, l3)), (4, (0, 1))] ⟨rfl, rfl, rfl, rfl, rfl, trivial⟩ ?_
            exact J285 N272 (by omega) l1 l1r l2 l2r l3 l3r 1 (⟨by decide, by decide⟩ : iR 1) s hv hW
      have J173 : ∀ N173 : Nat, N173 ≤ N24 → ∀ (l1 : Int) (l1r : iR l1) (l2 : Int) (l2r : iR l2) (l4 : Int) (l4r : iR l4) (l5 : Int) (l5r : iR l5) (s : im_S) (hv : jR s), C_readText10_173 I24 l1 l2 l4 l5 s Q → pq L ys d N173 rm_p_X10_readText (173, [(0, (2, ((582 : Nat) : Int))), (1, (0, l1)), (2, (0, l2)), (4, (0, l4)), (5, (0, l5))], [], s) (fun r : im_Re => r.1 = none ∧ (jR r.2 ∧ Q r.2)) := by
        intro N173 hN173 l1 l1r l2 l2r l4 l4r l5 l5r s hv hW
        unfold C_readText10_173 at hW
        refine pq_l (pc' := 174) rfl rfl rfl rfl rfl ?_
        refine pq_l (pc' := 176) rfl rfl rfl rfl rfl ?_
        refine pq_k (pc' := 178) (v := (0, 38)) rfl rfl rfl (fun _ => rfl) ?_
        have J209 : ∀ v208 : Int, iR v208 → ((C_settle10 v208 s (fun s210 => (∀ v412 : Int, v412 = (if ¬ (l5 = 38) then (-3) else (-2)) → (C_wait110 v412 s210 (fun s414 => (∀ s417, s417 = cpf s414 582 4 (w32 ((cgf s414 582 4) + 1)) → (C_readText10_289 I24 l1 l2 1 l4 s417 Q)))))))) → pq L ys d N173 rm_p_X10_readText (188, [(0, (2, ((582 : Nat) : Int))), (1, (0, l1)), (2, (0, l2)), (4, (0, l4)), (5, (0, l5))], [(0, v208), (2, ((582 : Nat) : Int))], s) (fun r : im_Re => r.1 = none ∧ (jR r.2 ∧ Q r.2)) := by
          intro v208 v208r hW
          refine pq_cVV (pc' := 191) rfl rfl rfl rfl rfl (c_settle10 L ys d s hv v208 v208r _ hW) (fun s210 hr => ?_)
          obtain ⟨s210v, hW⟩ := hr
          refine pq_l (pc' := 192) rfl rfl rfl rfl rfl ?_
          refine pq_l (pc' := 194) rfl rfl rfl rfl rfl ?_
          refine pq_k (pc' := 196) (v := (0, 38)) rfl rfl rfl (fun _ => rfl) ?_
          have J413 : ∀ v412 : Int, iR v412 → ((C_wait110 v412 s210 (fun s414 => (∀ s417, s417 = cpf s414 582 4 (w32 ((cgf s414 582 4) + 1)) → (C_readText10_289 I24 l1 l2 1 l4 s417 Q))))) → pq L ys d N173 rm_p_X10_readText (206, [(0, (2, ((582 : Nat) : Int))), (1, (0, l1)), (2, (0, l2)), (4, (0, l4))], [(0, v412), (2, ((582 : Nat) : Int))], s210) (fun r : im_Re => r.1 = none ∧ (jR r.2 ∧ Q r.2)) := by
            intro v412 v412r hW
            refine pq_cVV (pc' := 209) rfl rfl rfl rfl rfl (c_wait110 L ys d s210 s210v v412 v412r _ hW) (fun s414 hr => ?_)
            obtain ⟨s414v, hW⟩ := hr
            refine pq_k (pc' := 210) (v := (0, 1)) rfl rfl rfl (fun _ => rfl) ?_
            refine pq_s (pc' := 211) rfl rfl rfl rfl rfl ?_
            refine pq_l (pc' := 212) rfl rfl rfl rfl rfl ?_
            refine pq_x (pc' := 213) rfl rfl rfl (fun _ => rfl) ?_
            refine pq_gi (pc' := 216) rfl rfl rfl rfl rfl (fun r416 => ?_)
            refine pq_k (pc' := 217) (v := (0, 1)) rfl rfl rfl (fun _ => rfl) ?_
            refine pq_add (pc' := 218) rfl rfl ?_
            refine pr_pX (pc' := 221) rfl rfl rfl rfl s414v (fun s417 s417e s417v => ?_)
            have hW := hW s417 s417e
            refine pq_goto (pc' := 289) rfl rfl ?_
            refine pq_w [(0, (2, ((582 : Nat) : Int))), (1, (0, l1)), (2, (0, l2)), (3, (0, 1)), (4, (0, l4))] ⟨rfl, rfl, rfl, rfl, rfl, trivial⟩ ?_
            exact J289 N173 (by omega) l1 l1r l2 l2r 1 (⟨by decide, by decide⟩ : iR 1) l4 l4r s417 s417v hW
          refine pq_c_ne (pt := 204) (pc' := 199) rfl rfl rfl (fun c212 => ?_) (fun c212 => ?_)
          · refine pq_k (pc' := 206) (v := (0, (-3))) rfl rfl rfl (fun _ => rfl) ?_
            refine pq_w [(0, (2, ((582 : Nat) : Int))), (1, (0, l1)), (2, (0, l2)), (4, (0, l4))] ⟨rfl, rfl, rfl, rfl, trivial⟩ ?_
            exact J413 (-3) (⟨by decide, by decide⟩ : iR (-3)) (hW _ (by rw [if_pos c212]))
          · refine pq_k (pc' := 201) (v := (0, (-2))) rfl rfl rfl (fun _ => rfl) ?_
            refine pq_goto (pc' := 206) rfl rfl ?_
            refine pq_w [(0, (2, ((582 : Nat) : Int))), (1, (0, l1)), (2, (0, l2)), (4, (0, l4))] ⟨rfl, rfl, rfl, rfl, trivial⟩ ?_
            exact J413 (-2) (⟨by decide, by decide⟩ : iR (-2)) (hW _ (by rw [if_neg (by omega)]))
        refine pq_c_ne (pt := 186) (pc' := 181) rfl rfl rfl (fun c8 => ?_) (fun c8 => ?_)
        · refine pq_k (pc' := 188) (v := (0, (-3))) rfl rfl rfl (fun _ => rfl) ?_
          refine pq_w [(0, (2, ((582 : Nat) : Int))), (1, (0, l1)), (2, (0, l2)), (4, (0, l4)), (5, (0, l5))] ⟨rfl, rfl, rfl, rfl, rfl, trivial⟩ ?_
          exact J209 (-3) (⟨by decide, by decide⟩ : iR (-3)) (hW _ (by rw [if_pos c8]))
        · refine pq_k (pc' := 183) (v := (0, (-2))) rfl rfl rfl (fun _ => rfl) ?_
          refine pq_goto (pc' := 188) rfl rfl ?_
          refine pq_w [(0, (2, ((582 : Nat) : Int))), (1, (0, l1)), (2, (0, l2)), (4, (0, l4)), (5, (0, l5))] ⟨rfl, rfl, rfl, rfl, rfl, trivial⟩ ?_
          exact J209 (-2) (⟨by decide, by decide⟩ : iR (-2)) (hW _ (by rw [if_neg (by omega)]))
      have J139 : ∀ N139 : Nat, N139 ≤ N24 → ∀ (l1 : Int) (l1r : iR l1) (l2 : Int) (l2r : iR l2) (l3 : Int) (l3r : iR l3) (l4 : Int) (l4r : iR l4) (l5 : Int) (l5r : iR l5) (s : im_S) (hv : jR s), C_readText10_139 I24 l1 l2 l3 l4 l5 s Q → pq L ys d N139 rm_p_X10_readText (139, [(0, (2, ((582 : Nat) : Int))), (1, (0, l1)), (2, (0, l2)), (3, (0, l3)), (4, (0, l4)), (5, (0, l5))], [], s) (fun r : im_Re => r.1 = none ∧ (jR r.2 ∧ Q r.2)) := by
        intro N139 hN139 l1 l1r l2 l2r l3 l3r l4 l4r l5 l5r s hv hW
        unfold C_readText10_139 at hW
        refine pq_l (pc' := 140) rfl rfl rfl rfl rfl ?_
        refine pq_z_eq (pt := 159) (pc' := 143) rfl rfl rfl (fun c418 => ?_) (fun c418 => ?_)
        · have hW := hW.1 c418
          refine pq_l (pc' := 161) rfl rfl rfl rfl rfl ?_
          refine pq_k (pc' := 163) (v := (0, 38)) rfl rfl rfl (fun _ => rfl) ?_
          refine pq_c_eq (pt := 173) (pc' := 166) rfl rfl rfl (fun c419 => ?_) (fun c419 => ?_)
          · have hW := hW.1 c419
            refine pq_w [(0, (2, ((582 : Nat) : Int))), (1, (0, l1)), (2, (0, l2)), (4, (0, l4)), (5, (0, l5))] ⟨rfl, rfl, rfl, rfl, rfl, trivial⟩ ?_
            exact J173 N139 (by omega) l1 l1r l2 l2r l4 l4r l5 l5r s hv hW
          · have hW := hW.2 c419
            refine pq_l (pc' := 168) rfl rfl rfl rfl rfl ?_
            refine pq_k (pc' := 170) (v := (0, 124)) rfl rfl rfl (fun _ => rfl) ?_
            refine pq_c_ne (pt := 224) (pc' := 173) rfl rfl rfl (fun c420 => ?_) (fun c420 => ?_)
            · have hW := hW.1 c420
              refine pq_l (pc' := 226) rfl rfl rfl rfl rfl ?_
              refine pq_k (pc' := 228) (v := (0, 93)) rfl rfl rfl (fun _ => rfl) ?_
              refine pq_c_ne (pt := 272) (pc' := 231) rfl rfl rfl (fun c421 => ?_) (fun c421 => ?_)
              · have hW := hW.1 c421
                refine pq_w [(0, (2, ((582 : Nat) : Int))), (1, (0, l1)), (2, (0, l2)), (3, (0, l3)), (5, (0, l5))] ⟨rfl, rfl, rfl, rfl, rfl, trivial⟩ ?_
                exact J272 N139 (by omega) l1 l1r l2 l2r l3 l3r l5 l5r s hv hW
              · have hW := hW.2 c421
                refine pq_l (pc' := 232) rfl rfl rfl rfl rfl ?_
                refine pq_z_le (pt := 272) (pc' := 235) rfl rfl rfl (fun c422 => ?_) (fun c422 => ?_)
                · have hW := hW.1 c422
                  refine pq_w [(0, (2, ((582 : Nat) : Int))), (1, (0, l1)), (2, (0, l2)), (3, (0, l3)), (5, (0, l5))] ⟨rfl, rfl, rfl, rfl, rfl, trivial⟩ ?_
                  exact J272 N139 (by omega) l1 l1r l2 l2r l3 l3r l5 l5r s hv hW
                · have hW := hW.2 c422
                  refine pq_l (pc' := 236) rfl rfl rfl rfl rfl ?_
                  refine pq_k (pc' := 238) (v := (0, (-3))) rfl rfl rfl (fun _ => rfl) ?_
                  refine pq_cVV (pc' := 241) rfl rfl rfl rfl rfl (c_settle10 L ys d s hv (-3) (⟨by decide, by decide⟩ : iR (-3)) _ hW) (fun s423 hr => ?_)
                  obtain ⟨s423v, hW⟩ := hr
                  refine pq_l (pc' := 242) rfl rfl rfl rfl rfl ?_
                  refine pq_x (pc' := 243) rfl rfl rfl (fun _ => rfl) ?_
                  refine pq_gi (pc' := 246) rfl rfl rfl rfl rfl (fun r425 => ?_)
                  refine pq_k (pc' := 247) (v := (0, 1)) rfl rfl rfl (fun _ => rfl) ?_
                  refine pq_sub (pc' := 248) rfl rfl ?_
                  refine pr_pX (pc' := 251) rfl rfl rfl rfl s423v (fun s426 s426e s426v => ?_)
                  have hW := hW s426 s426e
                  refine pq_inc (pc' := 254) rfl rfl rfl rfl ?_
                  refine pq_l (pc' := 255) rfl rfl rfl rfl rfl ?_
                  refine pq_x (pc' := 256) rfl rfl rfl (fun _ => rfl) ?_
                  refine pq_gi (pc' := 259) rfl rfl rfl rfl rfl (fun r427 => ?_)
                  refine pq_k (pc' := 260) (v := (0, 1)) rfl rfl rfl (fun _ => rfl) ?_
                  refine pq_add (pc' := 261) rfl rfl ?_
                  refine pr_pX (pc' := 264) rfl rfl rfl rfl s426v (fun s428 s428e s428v => ?_)
                  have hW := hW s428 s428e
                  refine pq_l (pc' := 265) rfl rfl rfl rfl rfl ?_
                  refine pq_k (pc' := 266) (v := (0, (-1))) rfl rfl rfl (fun _ => rfl) ?_
                  refine pq_cVV (pc' := 269) rfl rfl rfl rfl rfl (c_settle10 L ys d s428 s428v (-1) (⟨by decide, by decide⟩ : iR (-1)) _ hW) (fun s429 hr => ?_)
                  obtain ⟨s429v, hW⟩ := hr
                  refine pq_goto (pc' := 289) rfl rfl ?_
                  refine pq_w [(0, (2, ((582 : Nat) : Int))), (1, (0, (w32 (l1 + (-1))))), (2, (0, l2)), (3, (0, l3)), (4, (0, l4))] ⟨rfl, rfl, rfl, rfl, rfl, trivial⟩ ?_
                  exact J289 N139 (by omega) (w32 (l1 + (-1))) (w32_r _) l2 l2r l3 l3r l4 l4r s429 s429v hW
            · have hW := hW.2 c420
              refine pq_w [(0, (2, ((582 : Nat) : Int))), (1, (0, l1)), (2, (0, l2)), (4, (0, l4)), (5, (0, l5))] ⟨rfl, rfl, rfl, rfl, rfl, trivial⟩ ?_
              exact J173 N139 (by omega) l1 l1r l2 l2r l4 l4r l5 l5r s hv hW
        · have hW := hW.2 c418
          refine pq_l (pc' := 144) rfl rfl rfl rfl rfl ?_
          refine pq_cVV (pc' := 147) rfl rfl rfl rfl rfl (c_readAtom10 L ys d s hv  _ hW) (fun s431 hr => ?_)
          obtain ⟨s431v, hW⟩ := hr
          refine pq_k (pc' := 148) (v := (0, 0)) rfl rfl rfl (fun _ => rfl) ?_
          refine pq_s (pc' := 149) rfl rfl rfl rfl rfl ?_
          refine pq_k (pc' := 150) (v := (0, 0)) rfl rfl rfl (fun _ => rfl) ?_
          refine pq_s (pc' := 151) rfl rfl rfl rfl rfl ?_
          refine pq_l (pc' := 152) rfl rfl rfl rfl rfl ?_
          refine pq_k (pc' := 153) (v := (0, (-1))) rfl rfl rfl (fun _ => rfl) ?_
          refine pq_cVV (pc' := 156) rfl rfl rfl rfl rfl (c_settle10 L ys d s431 s431v (-1) (⟨by decide, by decide⟩ : iR (-1)) _ hW) (fun s433 hr => ?_)
          obtain ⟨s433v, hW⟩ := hr
          refine pq_goto (pc' := 289) rfl rfl ?_
          refine pq_w [(0, (2, ((582 : Nat) : Int))), (1, (0, l1)), (2, (0, 0)), (3, (0, 0)), (4, (0, l4))] ⟨rfl, rfl, rfl, rfl, rfl, trivial⟩ ?_
          exact J289 N139 (by omega) l1 l1r 0 (⟨by decide, by decide⟩ : iR 0) 0 (⟨by decide, by decide⟩ : iR 0) l4 l4r s433 s433v hW
      have J118 : ∀ N118 : Nat, N118 ≤ N24 → ∀ (l1 : Int) (l1r : iR l1) (l3 : Int) (l3r : iR l3) (l4 : Int) (l4r : iR l4) (s : im_S) (hv : jR s), C_readText10_118 I24 l1 l3 l4 s Q → pq L ys d N118 rm_p_X10_readText (118, [(0, (2, ((582 : Nat) : Int))), (1, (0, l1)), (3, (0, l3)), (4, (0, l4))], [], s) (fun r : im_Re => r.1 = none ∧ (jR r.2 ∧ Q r.2)) := by
        intro N118 hN118 l1 l1r l3 l3r l4 l4r s hv hW
        unfold C_readText10_118 at hW
        refine pq_k (pc' := 119) (v := (0, 0)) rfl rfl rfl (fun _ => rfl) ?_
        refine pq_s (pc' := 120) rfl rfl rfl rfl rfl ?_
        refine pq_l (pc' := 121) rfl rfl rfl rfl rfl ?_
        refine pq_k (pc' := 123) (v := (0, (-4))) rfl rfl rfl (fun _ => rfl) ?_
        refine pq_cVV (pc' := 126) rfl rfl rfl rfl rfl (c_wait110 L ys d s hv (-4) (⟨by decide, by decide⟩ : iR (-4)) _ hW) (fun s435 hr => ?_)
        obtain ⟨s435v, hW⟩ := hr
        refine pq_l (pc' := 127) rfl rfl rfl rfl rfl ?_
        refine pq_x (pc' := 128) rfl rfl rfl (fun _ => rfl) ?_
        refine pq_gi (pc' := 131) rfl rfl rfl rfl rfl (fun r437 => ?_)
        refine pq_k (pc' := 132) (v := (0, 1)) rfl rfl rfl (fun _ => rfl) ?_
        refine pq_add (pc' := 133) rfl rfl ?_
        refine pr_pX (pc' := 136) rfl rfl rfl rfl s435v (fun s438 s438e s438v => ?_)
        have hW := hW s438 s438e
        refine pq_goto (pc' := 289) rfl rfl ?_
        refine pq_w [(0, (2, ((582 : Nat) : Int))), (1, (0, l1)), (2, (0, 0)), (3, (0, l3)), (4, (0, l4))] ⟨rfl, rfl, rfl, rfl, rfl, trivial⟩ ?_
        exact J289 N118 (by omega) l1 l1r 0 (⟨by decide, by decide⟩ : iR 0) l3 l3r l4 l4r s438 s438v hW
      have J89 : ∀ N89 : Nat, N89 ≤ N24 → ∀ (l1 : Int) (l1r : iR l1) (l2 : Int) (l2r : iR l2) (l3 : Int) (l3r : iR l3) (l4 : Int) (l4r : iR l4) (l5 : Int) (l5r : iR l5) (s : im_S) (hv : jR s), C_readText10_89 I24 l1 l2 l3 l4 l5 s Q → pq L ys d N89 rm_p_X10_readText (89, [(0, (2, ((582 : Nat) : Int))), (1, (0, l1)), (2, (0, l2)), (3, (0, l3)), (4, (0, l4)), (5, (0, l5))], [], s) (fun r : im_Re => r.1 = none ∧ (jR r.2 ∧ Q r.2)) := by
        intro N89 hN89 l1 l1r l2 l2r l3 l3r l4 l4r l5 l5r s hv hW
        unfold C_readText10_89 at hW
        refine pq_l (pc' := 90) rfl rfl rfl rfl rfl ?_
        refine pq_z_eq (pt := 139) (pc' := 93) rfl rfl rfl (fun c439 => ?_) (fun c439 => ?_)
        · have hW := hW.1 c439
          refine pq_w [(0, (2, ((582 : Nat) : Int))), (1, (0, l1)), (2, (0, l2)), (3, (0, l3)), (4, (0, l4)), (5, (0, l5))] ⟨rfl, rfl, rfl, rfl, rfl, rfl, trivial⟩ ?_
          exact J139 N89 (by omega) l1 l1r l2 l2r l3 l3r l4 l4r l5 l5r s hv hW
        · have hW := hW.2 c439
          refine pq_l (pc' := 95) rfl rfl rfl rfl rfl ?_
          refine pq_k (pc' := 97) (v := (0, 91)) rfl rfl rfl (fun _ => rfl) ?_
          refine pq_c_ne (pt := 139) (pc' := 100) rfl rfl rfl (fun c440 => ?_) (fun c440 => ?_)
          · have hW := hW.1 c440
            refine pq_w [(0, (2, ((582 : Nat) : Int))), (1, (0, l1)), (2, (0, l2)), (3, (0, l3)), (4, (0, l4)), (5, (0, l5))] ⟨rfl, rfl, rfl, rfl, rfl, rfl, trivial⟩ ?_
            exact J139 N89 (by omega) l1 l1r l2 l2r l3 l3r l4 l4r l5 l5r s hv hW
          · have hW := hW.2 c440
            refine pq_inc (pc' := 103) rfl rfl rfl rfl ?_
            refine pq_l (pc' := 104) rfl rfl rfl rfl rfl ?_
            refine pq_k (pc' := 106) (v := (0, 10)) rfl rfl rfl (fun _ => rfl) ?_
            refine pq_c_le (pt := 118) (pc' := 109) rfl rfl rfl (fun c441 => ?_) (fun c441 => ?_)
            · have hW := hW.1 c441
              refine pq_w [(0, (2, ((582 : Nat) : Int))), (1, (0, (w32 (l1 + 1)))), (3, (0, l3)), (4, (0, l4))] ⟨rfl, rfl, rfl, rfl, trivial⟩ ?_
              exact J118 N89 (by omega) (w32 (l1 + 1)) (w32_r _) l3 l3r l4 l4r s hv hW
            · have hW := hW.2 c441
              refine pq_l (pc' := 110) rfl rfl rfl rfl rfl ?_
              refine pq_k (pc' := 111) (v := (0, 3)) rfl rfl rfl (fun _ => rfl) ?_
              refine pq_l (pc' := 112) rfl rfl rfl rfl rfl ?_
              refine pq_gi (pc' := 115) rfl rfl rfl rfl rfl (fun r442 => ?_)
              refine pq_cVV (pc' := 118) rfl rfl rfl rfl rfl (c_fail10 L ys d s hv 3 (⟨by decide, by decide⟩ : iR 3) (cgf s 582 4) r442 _ hW) (fun s443 hr => ?_)
              obtain ⟨s443v, hW⟩ := hr
              refine pq_w [(0, (2, ((582 : Nat) : Int))), (1, (0, (w32 (l1 + 1)))), (3, (0, l3)), (4, (0, l4))] ⟨rfl, rfl, rfl, rfl, trivial⟩ ?_
              exact J118 N89 (by omega) (w32 (l1 + 1)) (w32_r _) l3 l3r l4 l4r s443 s443v hW
      have J71 : ∀ N71 : Nat, N71 ≤ N24 → ∀ (l1 : Int) (l1r : iR l1) (l2 : Int) (l2r : iR l2) (l3 : Int) (l3r : iR l3) (l4 : Int) (l4r : iR l4) (s : im_S) (hv : jR s), C_readText10_71 I24 l1 l2 l3 l4 s Q → pq L ys d N71 rm_p_X10_readText (71, [(0, (2, ((582 : Nat) : Int))), (1, (0, l1)), (2, (0, l2)), (3, (0, l3)), (4, (0, l4))], [], s) (fun r : im_Re => r.1 = none ∧ (jR r.2 ∧ Q r.2)) := by
        intro N71 hN71 l1 l1r l2 l2r l3 l3r l4 l4r s hv hW
        unfold C_readText10_71 at hW
        refine pq_l (pc' := 72) rfl rfl rfl rfl rfl ?_
        refine pq_k (pc' := 73) (v := (0, (-1))) rfl rfl rfl (fun _ => rfl) ?_
        refine pq_cVV (pc' := 76) rfl rfl rfl rfl rfl (c_wait110 L ys d s hv (-1) (⟨by decide, by decide⟩ : iR (-1)) _ hW) (fun s445 hr => ?_)
        obtain ⟨s445v, hW⟩ := hr
        refine pq_l (pc' := 77) rfl rfl rfl rfl rfl ?_
        refine pq_x (pc' := 78) rfl rfl rfl (fun _ => rfl) ?_
        refine pq_gi (pc' := 81) rfl rfl rfl rfl rfl (fun r447 => ?_)
        refine pq_k (pc' := 82) (v := (0, 1)) rfl rfl rfl (fun _ => rfl) ?_
        refine pq_add (pc' := 83) rfl rfl ?_
        refine pr_pX (pc' := 86) rfl rfl rfl rfl s445v (fun s448 s448e s448v => ?_)
        have hW := hW s448 s448e
        refine pq_goto (pc' := 289) rfl rfl ?_
        refine pq_w [(0, (2, ((582 : Nat) : Int))), (1, (0, l1)), (2, (0, l2)), (3, (0, l3)), (4, (0, l4))] ⟨rfl, rfl, rfl, rfl, rfl, trivial⟩ ?_
        exact J289 N71 (by omega) l1 l1r l2 l2r l3 l3r l4 l4r s448 s448v hW
      unfold C_readText10_24 at hW
      refine pq_l (pc' := 26) rfl rfl rfl rfl rfl ?_
      refine pq_z_ne (pt := 292) (pc' := 29) rfl rfl rfl (fun c449 => ?_) (fun c449 => ?_)
      · have hW := hW.1 c449
        refine pq_w [(0, (2, ((582 : Nat) : Int)))] ⟨rfl, trivial⟩ ?_
        exact J292 N24 (by omega) s hv hW
      · have hW := hW.2 c449
        refine pq_l (pc' := 30) rfl rfl rfl rfl rfl ?_
        refine pq_cVI (pc' := 33) rfl rfl rfl rfl rfl (c_good10 L ys d s hv  _ hW) (fun z451 s450 hr => ?_)
        obtain ⟨s450v, z451r, hW⟩ := hr
        refine pq_z_eq (pt := 292) (pc' := 36) rfl rfl rfl (fun c452 => ?_) (fun c452 => ?_)
        · have hW := hW.1 c452
          refine pq_w [(0, (2, ((582 : Nat) : Int)))] ⟨rfl, trivial⟩ ?_
          exact J292 N24 (by omega) s450 s450v hW
        · have hW := hW.2 c452
          refine pq_l (pc' := 37) rfl rfl rfl rfl rfl ?_
          refine pq_cVI (pc' := 40) rfl rfl rfl rfl rfl (c_peek10 L ys d s450 s450v  _ hW) (fun z454 s453 hr => ?_)
          obtain ⟨s453v, z454r, hW⟩ := hr
          refine pq_s (pc' := 42) rfl rfl rfl rfl rfl ?_
          refine pq_l (pc' := 43) rfl rfl rfl rfl rfl ?_
          refine pq_z_eq (pt := 89) (pc' := 46) rfl rfl rfl (fun c455 => ?_) (fun c455 => ?_)
          · have hW := hW.1 c455
            refine pq_w [(0, (2, ((582 : Nat) : Int))), (1, (0, l1)), (2, (0, l2)), (3, (0, l3)), (4, (0, l4)), (5, (0, z454))] ⟨rfl, rfl, rfl, rfl, rfl, rfl, trivial⟩ ?_
            exact J89 N24 (by omega) l1 l1r l2 l2r l3 l3r l4 l4r z454 z454r s453 s453v hW
          · have hW := hW.2 c455
            refine pq_l (pc' := 48) rfl rfl rfl rfl rfl ?_
            refine pq_k (pc' := 50) (v := (0, 126)) rfl rfl rfl (fun _ => rfl) ?_
            refine pq_c_ne (pt := 89) (pc' := 53) rfl rfl rfl (fun c456 => ?_) (fun c456 => ?_)
            · have hW := hW.1 c456
              refine pq_w [(0, (2, ((582 : Nat) : Int))), (1, (0, l1)), (2, (0, l2)), (3, (0, l3)), (4, (0, l4)), (5, (0, z454))] ⟨rfl, rfl, rfl, rfl, rfl, rfl, trivial⟩ ?_
              exact J89 N24 (by omega) l1 l1r l2 l2r l3 l3r l4 l4r z454 z454r s453 s453v hW
            · have hW := hW.2 c456
              refine pq_inc (pc' := 56) rfl rfl rfl rfl ?_
              refine pq_l (pc' := 57) rfl rfl rfl rfl rfl ?_
              refine pq_k (pc' := 59) (v := (0, 10)) rfl rfl rfl (fun _ => rfl) ?_
              refine pq_c_le (pt := 71) (pc' := 62) rfl rfl rfl (fun c457 => ?_) (fun c457 => ?_)
              · have hW := hW.1 c457
                refine pq_w [(0, (2, ((582 : Nat) : Int))), (1, (0, l1)), (2, (0, (w32 (l2 + 1)))), (3, (0, l3)), (4, (0, l4))] ⟨rfl, rfl, rfl, rfl, rfl, trivial⟩ ?_
                exact J71 N24 (by omega) l1 l1r (w32 (l2 + 1)) (w32_r _) l3 l3r l4 l4r s453 s453v hW
              · have hW := hW.2 c457
                refine pq_l (pc' := 63) rfl rfl rfl rfl rfl ?_
                refine pq_k (pc' := 64) (v := (0, 3)) rfl rfl rfl (fun _ => rfl) ?_
                refine pq_l (pc' := 65) rfl rfl rfl rfl rfl ?_
                refine pq_gi (pc' := 68) rfl rfl rfl rfl rfl (fun r458 => ?_)
                refine pq_cVV (pc' := 71) rfl rfl rfl rfl rfl (c_fail10 L ys d s453 s453v 3 (⟨by decide, by decide⟩ : iR 3) (cgf s453 582 4) r458 _ hW) (fun s459 hr => ?_)
                obtain ⟨s459v, hW⟩ := hr
                refine pq_w [(0, (2, ((582 : Nat) : Int))), (1, (0, l1)), (2, (0, (w32 (l2 + 1)))), (3, (0, l3)), (4, (0, l4))] ⟨rfl, rfl, rfl, rfl, rfl, trivial⟩ ?_
                exact J71 N24 (by omega) l1 l1r (w32 (l2 + 1)) (w32_r _) l3 l3r l4 l4r s459 s459v hW
  unfold C_readText10 at hW
  refine pq_l (pc' := 1) rfl rfl rfl rfl rfl ?_
  refine pq_k (pc' := 2) (v := (0, 0)) rfl rfl rfl (fun _ => rfl) ?_
  refine pr_pX (pc' := 5) rfl rfl rfl rfl hv (fun s461 s461e s461v => ?_)
  have hW := hW s461 s461e
  refine pq_l (pc' := 6) rfl rfl rfl rfl rfl ?_
  refine pq_k (pc' := 7) (v := (0, 0)) rfl rfl rfl (fun _ => rfl) ?_
  refine pr_pX (pc' := 10) rfl rfl rfl rfl s461v (fun s462 s462e s462v => ?_)
  have hW := hW s462 s462e
  refine pq_l (pc' := 11) rfl rfl rfl rfl rfl ?_
  refine pq_k (pc' := 12) (v := (0, 0)) rfl rfl rfl (fun _ => rfl) ?_
  refine pr_pX (pc' := 15) rfl rfl rfl rfl s462v (fun s463 s463e s463v => ?_)
  have hW := hW s463 s463e
  refine pq_k (pc' := 16) (v := (0, 0)) rfl rfl rfl (fun _ => rfl) ?_
  refine pq_s (pc' := 17) rfl rfl rfl rfl rfl ?_
  refine pq_k (pc' := 18) (v := (0, 0)) rfl rfl rfl (fun _ => rfl) ?_
  refine pq_s (pc' := 19) rfl rfl rfl rfl rfl ?_
  refine pq_k (pc' := 20) (v := (0, 1)) rfl rfl rfl (fun _ => rfl) ?_
  refine pq_s (pc' := 21) rfl rfl rfl rfl rfl ?_
  refine pq_k (pc' := 22) (v := (0, 0)) rfl rfl rfl (fun _ => rfl) ?_
  refine pq_s (pc' := 24) rfl rfl rfl rfl rfl ?_
  refine pq_w [(0, (2, ((582 : Nat) : Int))), (1, (0, 0)), (2, (0, 0)), (3, (0, 1)), (4, (0, 0))] ⟨rfl, rfl, rfl, rfl, rfl, trivial⟩ ?_
  obtain ⟨I9, hI9, hB9⟩ := hW
  exact J24 I9 hB9 N (by omega) 0 (⟨by decide, by decide⟩ : iR 0) 0 (⟨by decide, by decide⟩ : iR 0) 1 (⟨by decide, by decide⟩ : iR 1) 0 (⟨by decide, by decide⟩ : iR 0) s463 s463v hI9
