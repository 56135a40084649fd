/-! THE REST OF THE CLASS, lifted by program -/
def C_trueAtoms4_4 (K4 : Int × Int × im_S → Prop) (l1 : Int) (l2 : Int) (l3 : Int) (s : im_S) (Q : Int → im_S → Prop) : Prop := (((cgf s 2 11) ≤ l3 → (Q l2 s)) ∧ (¬ ((cgf s 2 11) ≤ l3) → (caI s 81 l3 → (∀ v205 : Int, v205 = (if ¬ ((cga s 81 l3) = 0) then (if ¬ ((cga s 81 l3) = 1) then 1 else (-1)) else 0) → (∀ v407 : Int, v407 = (if ¬ ((cga s 578 (w32 ((w32 (l1 * 10)) + l3))) = v205) then 0 else (shlI 1 l3)) → (K4 ((orI l2 v407), (w32 (l3 + 1)), s)))))))
def C_trueAtoms4 (l1 : Int) (s : im_S) (Q : Int → im_S → Prop) : Prop := (ploop (fun (K : Int × Int × im_S → Prop) (a : Int × Int × im_S) => C_trueAtoms4_4 K l1 a.1 a.2.1 a.2.2 Q) (0, 0, s))
set_option maxRecDepth 16384 in
theorem c_trueAtoms4 (L : Nat) (ys : Nat → Int32) (d : Nat) (s : im_S) (hv : jI s) (l1 : Int) (l1r : iR l1) (Q : Int → im_S → Prop) (hW : C_trueAtoms4 l1 s Q) : pcI L ys 0 d 159 [(2, ((1 : Nat) : Int)), (0, l1)] s (fun z9 s9 => jI s9 ∧ iR z9 ∧ Q z9 s9) := by
  intro res hres
  refine pq_start (M := rm_p_X4_trueAtoms) (Q := (fun r : im_Re => ∃ z, r.1 = some (0, z) ∧ (jI r.2 ∧ iR z ∧ Q z r.2))) om_X4_trueAtoms (fun d N => ?_) res hres
  refine pq_w [(0, (2, ((1 : Nat) : Int))), (1, (0, l1))] ⟨rfl, rfl, trivial⟩ ?_
  have J4 : ∀ (l1 : Int) (l1r : iR l1) (I4 : Int × Int × im_S → Prop) (hB4 : ∀ a : Int × Int × im_S, I4 a → C_trueAtoms4_4 I4 l1 a.1 a.2.1 a.2.2 Q), ∀ N4 : Nat, N4 ≤ N → ∀ (l2 : Int) (l2r : iR l2) (l3 : Int) (l3r : iR l3) (s : im_S) (hv : jI s), I4 (l2, l3, s) → pq L ys d N4 rm_p_X4_trueAtoms (4, [(0, (2, ((1 : Nat) : Int))), (1, (0, l1)), (2, (0, l2)), (3, (0, l3))], [], s) (fun r : im_Re => ∃ z, r.1 = some (0, z) ∧ (jI r.2 ∧ iR z ∧ Q z r.2)) := by
    intro l1 l1r I4 hB4 N4
    induction N4 using Nat.strongRecOn with
    | _ N4 ih4 =>
      intro hN4 l2 l2r l3 l3r s hv hI
      have hW : C_trueAtoms4_4 I4 l1 l2 l3 s Q := hB4 (l2, l3, s) hI
      unfold C_trueAtoms4_4 at hW
      refine pq_l (pc' := 5) rfl rfl rfl rfl rfl ?_
      refine pq_l (pc' := 6) rfl rfl rfl rfl rfl ?_
      refine pq_gr (pc' := 9) (c := 2) (v := 2) rfl rfl rfl rfl rfl rfl hv ?_
      refine pq_gi (pc' := 12) rfl rfl rfl rfl rfl (fun r1 => ?_)
      refine pq_c_ge (pt := 87) (pc' := 15) rfl rfl rfl (fun c2 => ?_) (fun c2 => ?_)
      · have hW := hW.1 c2
        refine pq_l (pc' := 88) rfl rfl rfl rfl rfl ?_
        exact pq_iret rfl ⟨_, rfl, hv, l2r, hW⟩
      · have hW := hW.2 c2
        refine pq_l (pc' := 16) rfl rfl rfl rfl rfl ?_
        refine pq_gr (pc' := 19) (c := 578) (v := 578) rfl rfl rfl rfl rfl rfl hv ?_
        refine pq_l (pc' := 20) rfl rfl rfl rfl rfl ?_
        refine pq_k (pc' := 22) (v := (0, 10)) rfl rfl rfl (fun _ => rfl) ?_
        refine pq_mul (pc' := 23) rfl rfl ?_
        refine pq_l (pc' := 24) rfl rfl rfl rfl rfl ?_
        refine pq_add (pc' := 25) rfl rfl ?_
        refine pq_ba (pc' := 26) rfl rfl (fun r3a r3 => ?_)
        refine pq_s (pc' := 28) rfl rfl rfl rfl rfl ?_
        refine pq_l (pc' := 29) rfl rfl rfl rfl rfl ?_
        refine pq_gr (pc' := 32) (c := 2) (v := 2) rfl rfl rfl rfl rfl rfl hv ?_
        refine pq_gr (pc' := 35) (c := 81) (v := 81) rfl rfl rfl rfl rfl rfl hv ?_
        refine pq_l (pc' := 36) rfl rfl rfl rfl rfl ?_
        refine pq_ia (pc' := 37) rfl rfl (fun r4a r4b r4 => ?_)
        have hW := hW ⟨⟨r4a, r4b⟩, r4⟩
        have J206 : ∀ v205 : Int, iR v205 → ((∀ v407 : Int, v407 = (if ¬ ((cga s 578 (w32 ((w32 (l1 * 10)) + l3))) = v205) then 0 else (shlI 1 l3)) → (I4 ((orI l2 v407), (w32 (l3 + 1)), s)))) → pq L ys d N4 rm_p_X4_trueAtoms (62, [(0, (2, ((1 : Nat) : Int))), (1, (0, l1)), (2, (0, l2)), (3, (0, l3)), (4, (0, (cga s 578 (w32 ((w32 (l1 * 10)) + l3)))))], [(0, v205)], s) (fun r : im_Re => ∃ z, r.1 = some (0, z) ∧ (jI r.2 ∧ iR z ∧ Q z r.2)) := by
          intro v205 v205r hW
          refine pq_s (pc' := 64) rfl rfl rfl rfl rfl ?_
          refine pq_l (pc' := 65) rfl rfl rfl rfl rfl ?_
          refine pq_l (pc' := 67) rfl rfl rfl rfl rfl ?_
          refine pq_l (pc' := 69) rfl rfl rfl rfl rfl ?_
          have J408 : ∀ v407 : Int, iR v407 → ((I4 ((orI l2 v407), (w32 (l3 + 1)), s))) → pq L ys d N4 rm_p_X4_trueAtoms (79, [(0, (2, ((1 : Nat) : Int))), (1, (0, l1)), (3, (0, l3))], [(0, v407), (0, l2)], s) (fun r : im_Re => ∃ z, r.1 = some (0, z) ∧ (jI r.2 ∧ iR z ∧ Q z r.2)) := by
            intro v407 v407r hW
            refine pq_ior (pc' := 80) rfl rfl ?_
            refine pq_s (pc' := 81) rfl rfl rfl rfl rfl ?_
            refine pq_inc (pc' := 84) rfl rfl rfl rfl ?_
            refine pq_gotoT (pc' := 4) rfl rfl (fun m409 m409l => ?_)
            refine pq_w [(0, (2, ((1 : Nat) : Int))), (1, (0, l1)), (2, (0, (orI l2 v407))), (3, (0, (w32 (l3 + 1))))] ⟨rfl, rfl, rfl, rfl, trivial⟩ ?_
            exact ih4 m409 (by omega) (by omega) (orI l2 v407) (orI_r _ _) (w32 (l3 + 1)) (w32_r _) s hv hW
          refine pq_c_ne (pt := 78) (pc' := 72) rfl rfl rfl (fun c207 => ?_) (fun c207 => ?_)
          · refine pq_k (pc' := 79) (v := (0, 0)) rfl rfl rfl (fun _ => rfl) ?_
            refine pq_w [(0, (2, ((1 : Nat) : Int))), (1, (0, l1)), (3, (0, l3))] ⟨rfl, rfl, rfl, trivial⟩ ?_
            exact J408 0 (⟨by decide, by decide⟩ : iR 0) (hW _ (by rw [if_pos c207]))
          · refine pq_k (pc' := 73) (v := (0, 1)) rfl rfl rfl (fun _ => rfl) ?_
            refine pq_l (pc' := 74) rfl rfl rfl rfl rfl ?_
            refine pq_ishl (pc' := 75) rfl rfl ?_
            refine pq_goto (pc' := 79) rfl rfl ?_
            refine pq_w [(0, (2, ((1 : Nat) : Int))), (1, (0, l1)), (3, (0, l3))] ⟨rfl, rfl, rfl, trivial⟩ ?_
            exact J408 (shlI 1 l3) (shlI_r _ _) (hW _ (by rw [if_neg (by omega)]))
        refine pq_z_ne (pt := 44) (pc' := 40) rfl rfl rfl (fun c5 => ?_) (fun c5 => ?_)
        · refine pq_l (pc' := 45) rfl rfl rfl rfl rfl ?_
          refine pq_gr (pc' := 48) (c := 2) (v := 2) rfl rfl rfl rfl rfl rfl hv ?_
          refine pq_gr (pc' := 51) (c := 81) (v := 81) rfl rfl rfl rfl rfl rfl hv ?_
          refine pq_l (pc' := 52) rfl rfl rfl rfl rfl ?_
          refine pq_ia (pc' := 53) rfl rfl (fun r6a r6b r6 => ?_)
          refine pq_k (pc' := 54) (v := (0, 1)) rfl rfl rfl (fun _ => rfl) ?_
          refine pq_c_ne (pt := 61) (pc' := 57) rfl rfl rfl (fun c7 => ?_) (fun c7 => ?_)
          · refine pq_k (pc' := 62) (v := (0, 1)) rfl rfl rfl (fun _ => rfl) ?_
            refine pq_w [(0, (2, ((1 : Nat) : Int))), (1, (0, l1)), (2, (0, l2)), (3, (0, l3)), (4, (0, (cga s 578 (w32 ((w32 (l1 * 10)) + l3)))))] ⟨rfl, rfl, rfl, rfl, rfl, trivial⟩ ?_
            exact J206 1 (⟨by decide, by decide⟩ : iR 1) (hW _ (by rw [if_pos c5, if_pos c7]))
          · refine pq_k (pc' := 58) (v := (0, (-1))) rfl rfl rfl (fun _ => rfl) ?_
            refine pq_goto (pc' := 62) rfl rfl ?_
            refine pq_w [(0, (2, ((1 : Nat) : Int))), (1, (0, l1)), (2, (0, l2)), (3, (0, l3)), (4, (0, (cga s 578 (w32 ((w32 (l1 * 10)) + l3)))))] ⟨rfl, rfl, rfl, rfl, rfl, trivial⟩ ?_
            exact J206 (-1) (⟨by decide, by decide⟩ : iR (-1)) (hW _ (by rw [if_pos c5, if_neg (by omega)]))
        · refine pq_k (pc' := 41) (v := (0, 0)) rfl rfl rfl (fun _ => rfl) ?_
          refine pq_goto (pc' := 62) rfl rfl ?_
          refine pq_w [(0, (2, ((1 : Nat) : Int))), (1, (0, l1)), (2, (0, l2)), (3, (0, l3)), (4, (0, (cga s 578 (w32 ((w32 (l1 * 10)) + l3)))))] ⟨rfl, rfl, rfl, rfl, rfl, trivial⟩ ?_
          exact J206 0 (⟨by decide, by decide⟩ : iR 0) (hW _ (by rw [if_neg (by omega)]))
  unfold C_trueAtoms4 at hW
  refine pq_k (pc' := 1) (v := (0, 0)) rfl rfl rfl (fun _ => rfl) ?_
  refine pq_s (pc' := 2) rfl rfl rfl rfl rfl ?_
  refine pq_k (pc' := 3) (v := (0, 0)) rfl rfl rfl (fun _ => rfl) ?_
  refine pq_s (pc' := 4) rfl rfl rfl rfl rfl ?_
  refine pq_w [(0, (2, ((1 : Nat) : Int))), (1, (0, l1)), (2, (0, 0)), (3, (0, 0))] ⟨rfl, rfl, rfl, rfl, trivial⟩ ?_
  obtain ⟨I9, hI9, hB9⟩ := hW
  exact J4 l1 l1r I9 hB9 N (by omega) 0 (⟨by decide, by decide⟩ : iR 0) 0 (⟨by decide, by decide⟩ : iR 0) s hv hI9
def C_fulfilledBy7_5 (K5 : Int × Int × im_S → Prop) (l1 : Int) (l2 : Int) (l4 : Int) (s : im_S) (Q : Int → im_S → Prop) : Prop := (((cgf s 2 13) ≤ l4 → (∀ v204 : Int, v204 = (if ¬ ((andJ l2 1) = 1) then 0 else 1) → (Q v204 s))) ∧ (¬ ((cgf s 2 13) ≤ l4) → (caI s 82 l4 → (∀ v407 : Int, v407 = (if 10 ≤ (cga s 82 l4) then (if ¬ ((cga s 82 l4) = 10) then (if ¬ ((cga s 82 l4) = 11) then (orJ (ushJ l2 1) (andJ l2 1)) else (andJ (ushJ l2 1) (orJ (andJ l2 1) (-2)))) else (xorJ l2 1)) else (orJ (shlJ l2 1) (andI (shrI l1 (cga s 82 l4)) 1))) → (K5 (v407, (w32 (l4 + 1)), s))))))
def C_fulfilledBy7 (l1 : Int) (s : im_S) (Q : Int → im_S → Prop) : Prop := (ploop (fun (K : Int × Int × im_S → Prop) (a : Int × Int × im_S) => C_fulfilledBy7_5 K l1 a.1 a.2.1 a.2.2 Q) (0, 0, s))
set_option maxRecDepth 16384 in
theorem c_fulfilledBy7 (L : Nat) (ys : Nat → Int32) (d : Nat) (s : im_S) (hv : jI s) (l1 : Int) (l1r : iR l1) (Q : Int → im_S → Prop) (hW : C_fulfilledBy7 l1 s Q) : pcI L ys 0 d 184 [(2, ((2 : Nat) : Int)), (0, l1)] s (fun z9 s9 => jI s9 ∧ iR z9 ∧ Q z9 s9) := by
  intro res hres
  refine pq_start (M := rm_p_X7_fulfilledBy) (Q := (fun r : im_Re => ∃ z, r.1 = some (0, z) ∧ (jI r.2 ∧ iR z ∧ Q z r.2))) om_X7_fulfilledBy (fun d N => ?_) res hres
  refine pq_w [(0, (2, ((2 : Nat) : Int))), (1, (0, l1))] ⟨rfl, rfl, trivial⟩ ?_
  have J5 : ∀ (l1 : Int) (l1r : iR l1) (I5 : Int × Int × im_S → Prop) (hB5 : ∀ a : Int × Int × im_S, I5 a → C_fulfilledBy7_5 I5 l1 a.1 a.2.1 a.2.2 Q), ∀ N5 : Nat, N5 ≤ N → ∀ (l2 : Int) (l2r : lR l2) (l4 : Int) (l4r : iR l4) (s : im_S) (hv : jI s), I5 (l2, l4, s) → pq L ys d N5 rm_p_X7_fulfilledBy (5, [(0, (2, ((2 : Nat) : Int))), (1, (0, l1)), (2, (1, l2)), (4, (0, l4))], [], s) (fun r : im_Re => ∃ z, r.1 = some (0, z) ∧ (jI r.2 ∧ iR z ∧ Q z r.2)) := by
    intro l1 l1r I5 hB5 N5
    induction N5 using Nat.strongRecOn with
    | _ N5 ih5 =>
      intro hN5 l2 l2r l4 l4r s hv hI
      have hW : C_fulfilledBy7_5 I5 l1 l2 l4 s Q := hB5 (l2, l4, s) hI
      unfold C_fulfilledBy7_5 at hW
      refine pq_l (pc' := 7) rfl rfl rfl rfl rfl ?_
      refine pq_l (pc' := 8) rfl rfl rfl rfl rfl ?_
      refine pq_gi (pc' := 11) rfl rfl rfl rfl rfl (fun r1 => ?_)
      refine pq_c_ge (pt := 98) (pc' := 14) rfl rfl rfl (fun c2 => ?_) (fun c2 => ?_)
      · have hW := hW.1 c2
        refine pq_l (pc' := 99) rfl rfl rfl rfl rfl ?_
        refine pq_k (pc' := 100) (v := (1, 1)) rfl rfl rfl (fun _ => rfl) ?_
        refine pq_land (pc' := 101) rfl rfl ?_
        refine pq_k (pc' := 102) (v := (1, 1)) rfl rfl rfl (fun _ => rfl) ?_
        refine pq_lcmp (pc' := 103) rfl rfl (andJ_r _ _) (⟨by decide, by decide⟩ : lR 1) (fun z3 z3c => ?_)
        have J205 : ∀ v204 : Int, iR v204 → ((Q v204 s)) → pq L ys d N5 rm_p_X7_fulfilledBy (111, [], [(0, v204)], s) (fun r : im_Re => ∃ z, r.1 = some (0, z) ∧ (jI r.2 ∧ iR z ∧ Q z r.2)) := by
          intro v204 v204r hW
          exact pq_iret rfl ⟨_, rfl, hv, v204r, hW⟩
        refine pq_z_ne (pt := 110) (pc' := 106) rfl rfl rfl (fun c4 => ?_) (fun c4 => ?_)
        · have c4 : ¬ ((andJ l2 1) = 1) := by omega
          refine pq_k (pc' := 111) (v := (0, 0)) rfl rfl rfl (fun _ => rfl) ?_
          refine pq_w [] trivial ?_
          exact J205 0 (⟨by decide, by decide⟩ : iR 0) (hW _ (by rw [if_pos c4]))
        · have c4 : (andJ l2 1) = 1 := by omega
          refine pq_k (pc' := 107) (v := (0, 1)) rfl rfl rfl (fun _ => rfl) ?_
          refine pq_goto (pc' := 111) rfl rfl ?_
          refine pq_w [] trivial ?_
          exact J205 1 (⟨by decide, by decide⟩ : iR 1) (hW _ (by rw [if_neg (by omega)]))
      · have hW := hW.2 c2
        refine pq_l (pc' := 15) rfl rfl rfl rfl rfl ?_
        refine pq_gr (pc' := 18) (c := 82) (v := 82) rfl rfl rfl rfl rfl rfl hv ?_
        refine pq_l (pc' := 20) rfl rfl rfl rfl rfl ?_
        refine pq_ia (pc' := 21) rfl rfl (fun r206a r206b r206 => ?_)
        have hW := hW ⟨⟨r206a, r206b⟩, r206⟩
        refine pq_s (pc' := 23) rfl rfl rfl rfl rfl ?_
        refine pq_l (pc' := 24) rfl rfl rfl rfl rfl ?_
        refine pq_k (pc' := 25) (v := (1, 1)) rfl rfl rfl (fun _ => rfl) ?_
        refine pq_land (pc' := 26) rfl rfl ?_
        refine pq_s2 (pc' := 28) rfl rfl rfl rfl rfl ?_
        refine pq_l (pc' := 30) rfl rfl rfl rfl rfl ?_
        refine pq_k (pc' := 32) (v := (0, 10)) rfl rfl rfl (fun _ => rfl) ?_
        have J408 : ∀ v407 : Int, lR v407 → ((I5 (v407, (w32 (l4 + 1)), s))) → pq L ys d N5 rm_p_X7_fulfilledBy (92, [(0, (2, ((2 : Nat) : Int))), (1, (0, l1)), (2, (1, v407)), (4, (0, l4))], [], s) (fun r : im_Re => ∃ z, r.1 = some (0, z) ∧ (jI r.2 ∧ iR z ∧ Q z r.2)) := by
          intro v407 v407r hW
          refine pq_inc (pc' := 95) rfl rfl rfl rfl ?_
          refine pq_gotoT (pc' := 5) rfl rfl (fun m409 m409l => ?_)
          refine pq_w [(0, (2, ((2 : Nat) : Int))), (1, (0, l1)), (2, (1, v407)), (4, (0, (w32 (l4 + 1))))] ⟨rfl, rfl, rfl, rfl, trivial⟩ ?_
          exact ih5 m409 (by omega) (by omega) v407 v407r (w32 (l4 + 1)) (w32_r _) s hv hW
        refine pq_c_ge (pt := 50) (pc' := 35) rfl rfl rfl (fun c207 => ?_) (fun c207 => ?_)
        · refine pq_l (pc' := 52) rfl rfl rfl rfl rfl ?_
          refine pq_k (pc' := 54) (v := (0, 10)) rfl rfl rfl (fun _ => rfl) ?_
          refine pq_c_ne (pt := 64) (pc' := 57) rfl rfl rfl (fun c208 => ?_) (fun c208 => ?_)
          · refine pq_l (pc' := 66) rfl rfl rfl rfl rfl ?_
            refine pq_k (pc' := 68) (v := (0, 11)) rfl rfl rfl (fun _ => rfl) ?_
            refine pq_c_ne (pt := 85) (pc' := 71) rfl rfl rfl (fun c209 => ?_) (fun c209 => ?_)
            · refine pq_l (pc' := 86) rfl rfl rfl rfl rfl ?_
              refine pq_k (pc' := 87) (v := (0, 1)) rfl rfl rfl (fun _ => rfl) ?_
              refine pq_lushr (pc' := 88) rfl rfl ?_
              refine pq_l (pc' := 90) rfl rfl rfl rfl rfl ?_
              refine pq_lor (pc' := 91) rfl rfl ?_
              refine pq_s2 (pc' := 92) rfl rfl rfl rfl rfl ?_
              refine pq_w [(0, (2, ((2 : Nat) : Int))), (1, (0, l1)), (2, (1, (orJ (ushJ l2 1) (andJ l2 1)))), (4, (0, l4))] ⟨rfl, rfl, rfl, rfl, trivial⟩ ?_
              exact J408 (orJ (ushJ l2 1) (andJ l2 1)) (orJ_r _ _) (hW _ (by rw [if_pos c207, if_pos c208, if_pos c209]))
            · refine pq_l (pc' := 72) rfl rfl rfl rfl rfl ?_
              refine pq_k (pc' := 73) (v := (0, 1)) rfl rfl rfl (fun _ => rfl) ?_
              refine pq_lushr (pc' := 74) rfl rfl ?_
              refine pq_l (pc' := 76) rfl rfl rfl rfl rfl ?_
              refine pq_k (pc' := 79) (v := (1, (-2))) rfl rfl rfl (fun _ => rfl) ?_
              refine pq_lor (pc' := 80) rfl rfl ?_
              refine pq_land (pc' := 81) rfl rfl ?_
              refine pq_s2 (pc' := 82) rfl rfl rfl rfl rfl ?_
              refine pq_goto (pc' := 92) rfl rfl ?_
              refine pq_w [(0, (2, ((2 : Nat) : Int))), (1, (0, l1)), (2, (1, (andJ (ushJ l2 1) (orJ (andJ l2 1) (-2))))), (4, (0, l4))] ⟨rfl, rfl, rfl, rfl, trivial⟩ ?_
              exact J408 (andJ (ushJ l2 1) (orJ (andJ l2 1) (-2))) (andJ_r _ _) (hW _ (by rw [if_pos c207, if_pos c208, if_neg (by omega)]))
          · refine pq_l (pc' := 58) rfl rfl rfl rfl rfl ?_
            refine pq_k (pc' := 59) (v := (1, 1)) rfl rfl rfl (fun _ => rfl) ?_
            refine pq_lxor (pc' := 60) rfl rfl ?_
            refine pq_s2 (pc' := 61) rfl rfl rfl rfl rfl ?_
            refine pq_goto (pc' := 92) rfl rfl ?_
            refine pq_w [(0, (2, ((2 : Nat) : Int))), (1, (0, l1)), (2, (1, (xorJ l2 1))), (4, (0, l4))] ⟨rfl, rfl, rfl, rfl, trivial⟩ ?_
            exact J408 (xorJ l2 1) (xorJ_r _ _) (hW _ (by rw [if_pos c207, if_neg (by omega)]))
        · refine pq_l (pc' := 36) rfl rfl rfl rfl rfl ?_
          refine pq_k (pc' := 37) (v := (0, 1)) rfl rfl rfl (fun _ => rfl) ?_
          refine pq_lshl (pc' := 38) rfl rfl ?_
          refine pq_l (pc' := 39) rfl rfl rfl rfl rfl ?_
          refine pq_l (pc' := 41) rfl rfl rfl rfl rfl ?_
          refine pq_ishr (pc' := 42) rfl rfl ?_
          refine pq_k (pc' := 43) (v := (0, 1)) rfl rfl rfl (fun _ => rfl) ?_
          refine pq_iand (pc' := 44) rfl rfl ?_
          refine pq_i2l (pc' := 45) rfl rfl (andI_r _ _) ?_
          refine pq_lor (pc' := 46) rfl rfl ?_
          refine pq_s2 (pc' := 47) rfl rfl rfl rfl rfl ?_
          refine pq_goto (pc' := 92) rfl rfl ?_
          refine pq_w [(0, (2, ((2 : Nat) : Int))), (1, (0, l1)), (2, (1, (orJ (shlJ l2 1) (andI (shrI l1 (cga s 82 l4)) 1)))), (4, (0, l4))] ⟨rfl, rfl, rfl, rfl, trivial⟩ ?_
          exact J408 (orJ (shlJ l2 1) (andI (shrI l1 (cga s 82 l4)) 1)) (orJ_r _ _) (hW _ (by rw [if_neg (fun z => c207 z)]))
  unfold C_fulfilledBy7 at hW
  refine pq_k (pc' := 1) (v := (1, 0)) rfl rfl rfl (fun _ => rfl) ?_
  refine pq_s2 (pc' := 2) rfl rfl rfl rfl rfl ?_
  refine pq_k (pc' := 3) (v := (0, 0)) rfl rfl rfl (fun _ => rfl) ?_
  refine pq_s (pc' := 5) rfl rfl rfl rfl rfl ?_
  refine pq_w [(0, (2, ((2 : Nat) : Int))), (1, (0, l1)), (2, (1, 0)), (4, (0, 0))] ⟨rfl, rfl, rfl, rfl, trivial⟩ ?_
  obtain ⟨I9, hI9, hB9⟩ := hW
  exact J5 l1 l1r I9 hB9 N (by omega) 0 (⟨by decide, by decide⟩ : lR 0) 0 (⟨by decide, by decide⟩ : iR 0) s hv hI9
def C_multiplicity0 (l1 : Int) (l2 : Int) (s : im_S) (Q : Int → im_S → Prop) : Prop := (caI s 246 (w32 ((w32 (l1 * 10)) + l2)) → (Q (cga s 246 (w32 ((w32 (l1 * 10)) + l2))) s))
set_option maxRecDepth 16384 in
theorem c_multiplicity0 (L : Nat) (ys : Nat → Int32) (d : Nat) (s : im_S) (hv : jI s) (l1 : Int) (l1r : iR l1) (l2 : Int) (l2r : iR l2) (Q : Int → im_S → Prop) (hW : C_multiplicity0 l1 l2 s Q) : pcI L ys 0 d 4 [(2, ((84 : Nat) : Int)), (0, l1), (0, l2)] s (fun z9 s9 => jI s9 ∧ iR z9 ∧ Q z9 s9) := by
  intro res hres
  refine pq_start (M := rm_p_X0_multiplicity) (Q := (fun r : im_Re => ∃ z, r.1 = some (0, z) ∧ (jI r.2 ∧ iR z ∧ Q z r.2))) om_X0_multiplicity (fun d N => ?_) res hres
  refine pq_w [(0, (2, ((84 : Nat) : Int))), (1, (0, l1)), (2, (0, l2))] ⟨rfl, rfl, rfl, trivial⟩ ?_
  unfold C_multiplicity0 at hW
  refine pq_l (pc' := 1) rfl rfl rfl rfl rfl ?_
  refine pq_gr (pc' := 4) (c := 246) (v := 246) rfl rfl rfl rfl rfl rfl hv ?_
  refine pq_l (pc' := 5) rfl rfl rfl rfl rfl ?_
  refine pq_k (pc' := 7) (v := (0, 10)) rfl rfl rfl (fun _ => rfl) ?_
  refine pq_mul (pc' := 8) rfl rfl ?_
  refine pq_l (pc' := 9) rfl rfl rfl rfl rfl ?_
  refine pq_add (pc' := 10) rfl rfl ?_
  refine pq_ia (pc' := 11) rfl rfl (fun r1a r1b r1 => ?_)
  have hW := hW ⟨⟨r1a, r1b⟩, r1⟩
  exact pq_iret rfl ⟨_, rfl, hv, r1, hW⟩
def C_fillSigns4_42 (K42 : Int × Int × im_S → Prop) (l1 : Int) (l2 : Int) (l3 : Int) (s : im_S) (Q : im_S → Prop) : Prop := ((l3 < 0 → (Q s)) ∧ (¬ (l3 < 0) → (C_rootAt4 l3 s (fun z3 s2 => (C_multiplicity0 (cgf s2 z3 0) l1 s2 (fun z6 s5 => (∀ v207 : Int, v207 = (if z6 ≤ 0 then l2 else 0) → (∀ s209, s209 = cpa s5 578 (w32 ((w32 ((w32 ((w32 (2 * l3)) + 1)) * 10)) + l1)) (c8 v207) → (∀ v410 : Int, v410 = (if ¬ ((remI z6 2) = 1) then l2 else (w32 (-l2))) → (∀ s412, s412 = cpa s209 578 (w32 ((w32 ((w32 (2 * l3)) * 10)) + l1)) (c8 v410) → (K42 (v410, (w32 (l3 + (-1))), s412))))))))))))
def C_fillSigns4 (l1 : Int) (s : im_S) (Q : im_S → Prop) : Prop := (C_lead6 (61 + 2 * (l1).toNat) s (fun z416 s415 => (C_J13_compare_74951 z416 0 s415 (fun z418 s417 => (∀ s420, s420 = cpa s417 578 (w32 ((w32 ((w32 (2 * (cgf s417 1 4))) * 10)) + l1)) (c8 z418) → (ploop (fun (K : Int × Int × im_S → Prop) (a : Int × Int × im_S) => C_fillSigns4_42 K l1 a.1 a.2.1 a.2.2 Q) (z418, (w32 ((cgf s420 1 4) - 1)), s420)))))))
set_option maxRecDepth 16384 in
theorem c_fillSigns4 (L : Nat) (ys : Nat → Int32) (d : Nat) (s : im_S) (hv : jI s) (l1 : Int) (l1r : iR l1) (Q : im_S → Prop) (hW : C_fillSigns4 l1 s Q) : pcV L ys d 153 [(2, ((1 : Nat) : Int)), (0, l1)] s (fun s9 => jI s9 ∧ Q s9) := by
  intro res hres
  refine pq_start (M := rm_p_X4_fillSigns) (Q := (fun r : im_Re => r.1 = none ∧ (jI r.2 ∧ Q r.2))) om_X4_fillSigns (fun d N => ?_) res hres
  refine pq_w [(0, (2, ((1 : Nat) : Int))), (1, (0, l1))] ⟨rfl, rfl, trivial⟩ ?_
  have J42 : ∀ (l1 : Int) (l1r : iR l1) (I42 : Int × Int × im_S → Prop) (hB42 : ∀ a : Int × Int × im_S, I42 a → C_fillSigns4_42 I42 l1 a.1 a.2.1 a.2.2 Q), ∀ N42 : Nat, N42 ≤ N → ∀ (l2 : Int) (l2r : iR l2) (l3 : Int) (l3r : iR l3) (s : im_S) (hv : jI s), I42 (l2, l3, s) → pq L ys d N42 rm_p_X4_fillSigns (42, [(0, (2, ((1 : Nat) : Int))), (1, (0, l1)), (2, (0, l2)), (3, (0, l3))], [], s) (fun r : im_Re => r.1 = none ∧ (jI r.2 ∧ Q r.2)) := by
    intro l1 l1r I42 hB42 N42
    induction N42 using Nat.strongRecOn with
    | _ N42 ih42 =>
      intro hN42 l2 l2r l3 l3r s hv hI
      have hW : C_fillSigns4_42 I42 l1 l2 l3 s Q := hB42 (l2, l3, s) hI
      unfold C_fillSigns4_42 at hW
      refine pq_l (pc' := 43) rfl rfl rfl rfl rfl ?_
      refine pq_z_lt (pt := 126) (pc' := 46) rfl rfl rfl (fun c1 => ?_) (fun c1 => ?_)
      · have hW := hW.1 c1
        exact pq_vret rfl ⟨rfl, hv, hW⟩
      · have hW := hW.2 c1
        refine pq_l (pc' := 47) rfl rfl rfl rfl rfl ?_
        refine pq_gr (pc' := 50) (c := 84) (v := 84) rfl rfl rfl rfl rfl rfl hv ?_
        refine pq_l (pc' := 51) rfl rfl rfl rfl rfl ?_
        refine pq_l (pc' := 52) rfl rfl rfl rfl rfl ?_
        refine pq_cVR (pc' := 55) rfl rfl rfl rfl rfl (c_rootAt4 L ys d s hv l3 l3r _ hW) (fun z3 s2 hr => ?_)
        obtain ⟨s2v, z3n, hW⟩ := hr
        refine pq_gi (pc' := 58) rfl rfl rfl rfl rfl (fun r4 => ?_)
        refine pq_l (pc' := 59) rfl rfl rfl rfl rfl ?_
        refine pq_cVI (pc' := 62) rfl rfl rfl rfl rfl (c_multiplicity0 L ys d s2 s2v (cgf s2 z3 0) r4 l1 l1r _ hW) (fun z6 s5 hr => ?_)
        obtain ⟨s5v, z6r, hW⟩ := hr
        refine pq_s (pc' := 64) rfl rfl rfl rfl rfl ?_
        refine pq_l (pc' := 65) rfl rfl rfl rfl rfl ?_
        refine pq_gr (pc' := 68) (c := 578) (v := 578) rfl rfl rfl rfl rfl rfl s5v ?_
        refine pq_k (pc' := 69) (v := (0, 2)) rfl rfl rfl (fun _ => rfl) ?_
        refine pq_l (pc' := 70) rfl rfl rfl rfl rfl ?_
        refine pq_mul (pc' := 71) rfl rfl ?_
        refine pq_k (pc' := 72) (v := (0, 1)) rfl rfl rfl (fun _ => rfl) ?_
        refine pq_add (pc' := 73) rfl rfl ?_
        refine pq_k (pc' := 75) (v := (0, 10)) rfl rfl rfl (fun _ => rfl) ?_
        refine pq_mul (pc' := 76) rfl rfl ?_
        refine pq_l (pc' := 77) rfl rfl rfl rfl rfl ?_
        refine pq_add (pc' := 78) rfl rfl ?_
        refine pq_l (pc' := 80) rfl rfl rfl rfl rfl ?_
        have J208 : ∀ v207 : Int, iR v207 → ((∀ s209, s209 = cpa s5 578 (w32 ((w32 ((w32 ((w32 (2 * l3)) + 1)) * 10)) + l1)) (c8 v207) → (∀ v410 : Int, v410 = (if ¬ ((remI z6 2) = 1) then l2 else (w32 (-l2))) → (∀ s412, s412 = cpa s209 578 (w32 ((w32 ((w32 (2 * l3)) * 10)) + l1)) (c8 v410) → (I42 (v410, (w32 (l3 + (-1))), s412)))))) → pq L ys d N42 rm_p_X4_fillSigns (88, [(0, (2, ((1 : Nat) : Int))), (1, (0, l1)), (2, (0, l2)), (3, (0, l3)), (4, (0, z6))], [(0, v207), (0, (w32 ((w32 ((w32 ((w32 (2 * l3)) + 1)) * 10)) + l1))), (2, ((578 : Nat) : Int))], s5) (fun r : im_Re => r.1 = none ∧ (jI r.2 ∧ Q r.2)) := by
          intro v207 v207r hW
          refine pq_i2b (pc' := 89) rfl rfl ?_
          refine pq_bs (pc' := 90) rfl rfl (by decide) (by decide) s5v (fun s209a s209 s209e s209v => ?_)
          have hW := hW s209 s209e
          refine pq_l (pc' := 92) rfl rfl rfl rfl rfl ?_
          refine pq_k (pc' := 93) (v := (0, 2)) rfl rfl rfl (fun _ => rfl) ?_
          refine pq_irem (pc' := 94) rfl rfl ?_
          refine pq_k (pc' := 95) (v := (0, 1)) rfl rfl rfl (fun _ => rfl) ?_
          have J411 : ∀ v410 : Int, iR v410 → ((∀ s412, s412 = cpa s209 578 (w32 ((w32 ((w32 (2 * l3)) * 10)) + l1)) (c8 v410) → (I42 (v410, (w32 (l3 + (-1))), s412)))) → pq L ys d N42 rm_p_X4_fillSigns (104, [(0, (2, ((1 : Nat) : Int))), (1, (0, l1)), (3, (0, l3))], [(0, v410)], s209) (fun r : im_Re => r.1 = none ∧ (jI r.2 ∧ Q r.2)) := by
            intro v410 v410r hW
            refine pq_s (pc' := 105) rfl rfl rfl rfl rfl ?_
            refine pq_l (pc' := 106) rfl rfl rfl rfl rfl ?_
            refine pq_gr (pc' := 109) (c := 578) (v := 578) rfl rfl rfl rfl rfl rfl s209v ?_
            refine pq_k (pc' := 110) (v := (0, 2)) rfl rfl rfl (fun _ => rfl) ?_
            refine pq_l (pc' := 111) rfl rfl rfl rfl rfl ?_
            refine pq_mul (pc' := 112) rfl rfl ?_
            refine pq_k (pc' := 114) (v := (0, 10)) rfl rfl rfl (fun _ => rfl) ?_
            refine pq_mul (pc' := 115) rfl rfl ?_
            refine pq_l (pc' := 116) rfl rfl rfl rfl rfl ?_
            refine pq_add (pc' := 117) rfl rfl ?_
            refine pq_l (pc' := 118) rfl rfl rfl rfl rfl ?_
            refine pq_i2b (pc' := 119) rfl rfl ?_
            refine pq_bs (pc' := 120) rfl rfl (by decide) (by decide) s209v (fun s412a s412 s412e s412v => ?_)
            have hW := hW s412 s412e
            refine pq_inc (pc' := 123) rfl rfl rfl rfl ?_
            refine pq_gotoT (pc' := 42) rfl rfl (fun m413 m413l => ?_)
            refine pq_w [(0, (2, ((1 : Nat) : Int))), (1, (0, l1)), (2, (0, v410)), (3, (0, (w32 (l3 + (-1)))))] ⟨rfl, rfl, rfl, rfl, trivial⟩ ?_
            exact ih42 m413 (by omega) (by omega) v410 v410r (w32 (l3 + (-1))) (w32_r _) s412 s412v hW
          refine pq_c_ne (pt := 103) (pc' := 98) rfl rfl rfl (fun c210 => ?_) (fun c210 => ?_)
          · refine pq_l (pc' := 104) rfl rfl rfl rfl rfl ?_
            refine pq_w [(0, (2, ((1 : Nat) : Int))), (1, (0, l1)), (3, (0, l3))] ⟨rfl, rfl, rfl, trivial⟩ ?_
            exact J411 l2 l2r (hW _ (by rw [if_pos c210]))
          · refine pq_l (pc' := 99) rfl rfl rfl rfl rfl ?_
            refine pq_ineg (pc' := 100) rfl rfl ?_
            refine pq_goto (pc' := 104) rfl rfl ?_
            refine pq_w [(0, (2, ((1 : Nat) : Int))), (1, (0, l1)), (3, (0, l3))] ⟨rfl, rfl, rfl, trivial⟩ ?_
            exact J411 (w32 (-l2)) (w32_r _) (hW _ (by rw [if_neg (by omega)]))
        refine pq_z_le (pt := 87) (pc' := 83) rfl rfl rfl (fun c7 => ?_) (fun c7 => ?_)
        · refine pq_l (pc' := 88) rfl rfl rfl rfl rfl ?_
          refine pq_w [(0, (2, ((1 : Nat) : Int))), (1, (0, l1)), (2, (0, l2)), (3, (0, l3)), (4, (0, z6))] ⟨rfl, rfl, rfl, rfl, rfl, trivial⟩ ?_
          exact J208 l2 l2r (hW _ (by rw [if_pos c7]))
        · refine pq_k (pc' := 84) (v := (0, 0)) rfl rfl rfl (fun _ => rfl) ?_
          refine pq_goto (pc' := 88) rfl rfl ?_
          refine pq_w [(0, (2, ((1 : Nat) : Int))), (1, (0, l1)), (2, (0, l2)), (3, (0, l3)), (4, (0, z6))] ⟨rfl, rfl, rfl, rfl, rfl, trivial⟩ ?_
          exact J208 0 (⟨by decide, by decide⟩ : iR 0) (hW _ (by rw [if_neg (fun z => c7 z)]))
  unfold C_fillSigns4 at hW
  refine pq_l (pc' := 1) rfl rfl rfl rfl rfl ?_
  refine pq_gr (pc' := 4) (c := 2) (v := 2) rfl rfl rfl rfl rfl rfl hv ?_
  refine pq_gr (pc' := 7) (c := 60) (v := 60) rfl rfl rfl rfl rfl rfl hv ?_
  refine pq_l (pc' := 8) rfl rfl rfl rfl rfl ?_
  refine pq_aa (pc' := 9) (b := 61) (k := 2) (n := 10) (m := 10) rfl rfl rfl rfl rfl hv (fun r414a r414b => ?_)
  refine pq_cVI (pc' := 12) rfl rfl rfl rfl rfl (c_lead6 L ys d s hv (61 + 2 * (l1).toNat) _ hW) (fun z416 s415 hr => ?_)
  obtain ⟨s415v, z416r, hW⟩ := hr
  refine pq_k (pc' := 13) (v := (1, 0)) rfl rfl rfl (fun _ => rfl) ?_
  refine pq_cSI (pc' := 16) rfl rfl rfl rfl rfl (c_J13_compare_74951 L ys d s415 s415v z416 z416r 0 (⟨by decide, by decide⟩ : lR 0) _ hW) (fun z418 s417 hr => ?_)
  obtain ⟨s417v, z418r, hW⟩ := hr
  refine pq_s (pc' := 17) rfl rfl rfl rfl rfl ?_
  refine pq_l (pc' := 18) rfl rfl rfl rfl rfl ?_
  refine pq_gr (pc' := 21) (c := 578) (v := 578) rfl rfl rfl rfl rfl rfl s417v ?_
  refine pq_k (pc' := 22) (v := (0, 2)) rfl rfl rfl (fun _ => rfl) ?_
  refine pq_l (pc' := 23) rfl rfl rfl rfl rfl ?_
  refine pq_gi (pc' := 26) rfl rfl rfl rfl rfl (fun r419 => ?_)
  refine pq_mul (pc' := 27) rfl rfl ?_
  refine pq_k (pc' := 29) (v := (0, 10)) rfl rfl rfl (fun _ => rfl) ?_
  refine pq_mul (pc' := 30) rfl rfl ?_
  refine pq_l (pc' := 31) rfl rfl rfl rfl rfl ?_
  refine pq_add (pc' := 32) rfl rfl ?_
  refine pq_l (pc' := 33) rfl rfl rfl rfl rfl ?_
  refine pq_i2b (pc' := 34) rfl rfl ?_
  refine pq_bs (pc' := 35) rfl rfl (by decide) (by decide) s417v (fun s420a s420 s420e s420v => ?_)
  have hW := hW s420 s420e
  refine pq_l (pc' := 36) rfl rfl rfl rfl rfl ?_
  refine pq_gi (pc' := 39) rfl rfl rfl rfl rfl (fun r421 => ?_)
  refine pq_k (pc' := 40) (v := (0, 1)) rfl rfl rfl (fun _ => rfl) ?_
  refine pq_sub (pc' := 41) rfl rfl ?_
  refine pq_s (pc' := 42) rfl rfl rfl rfl rfl ?_
  refine pq_w [(0, (2, ((1 : Nat) : Int))), (1, (0, l1)), (2, (0, z418)), (3, (0, (w32 ((cgf s420 1 4) - 1))))] ⟨rfl, rfl, rfl, rfl, trivial⟩ ?_
  obtain ⟨I9, hI9, hB9⟩ := hW
  exact J42 l1 l1r I9 hB9 N (by omega) z418 z418r (w32 ((cgf s420 1 4) - 1)) (w32_r _) s420 s420v hI9
def C_fillCells4_161 (K57 : Int × im_S → Prop) (l1 : Int) (l2 : Int) (s : im_S) (Q : im_S → Prop) : Prop := (K57 ((w32 (l2 + 1)), s))
def C_fillCells4_57 (K57 : Int × im_S → Prop) (l1 : Int) (l2 : Int) (s : im_S) (Q : im_S → Prop) : Prop := ((l1 ≤ l2 → (Q s)) ∧ (¬ (l1 ≤ l2) → ((0 ≤ l2 ∧ l2 < gln 581) → ∀ s3, s3 = cpa s 581 l2 0 → (C_trueAtoms4 l2 s3 (fun z5 s4 => (C_fulfilledBy7 z5 s4 (fun z7 s6 => (∀ s8, s8 = cpa s6 579 l2 z7 → (((cga s8 579 l2) = 0 → (C_fillCells4_161 K57 l1 l2 s8 Q)) ∧ (¬ ((cga s8 579 l2) = 0) → (∀ v213 : Int, v213 = (if ¬ ((cgf s8 1 9) = (w32 (l2 - 1))) then 1 else (if ¬ ((cgf s8 1 7) = 0) then 0 else 1)) → (∀ s215, s215 = cpf s8 1 10 (w32 ((cgf s8 1 10) + v213)) → (∀ v417 : Int, v417 = (if ¬ ((cgf s215 1 7) = 0) then (cgf s215 1 8) else l2) → (∀ s419, s419 = cpf s215 1 8 v417 → (∀ s420, s420 = cpf s419 1 9 l2 → (∀ s422, s422 = cpf s420 1 7 (w32 ((cgf s420 1 7) + 1)) → (C_fillCells4_161 K57 l1 l2 s422 Q)))))))))))))))))
def C_fillCells4_11 (K11 : Int × im_S → Prop) (l1 : Int) (l2 : Int) (s : im_S) (Q : im_S → Prop) : Prop := (((cgf s 2 11) ≤ l2 → (∀ s425, s425 = cpf s 1 7 0 → (∀ s426, s426 = cpf s425 1 10 0 → (∀ s427, s427 = cpf s426 1 8 (-2) → (∀ s428, s428 = cpf s427 1 9 (-2) → (ploop (fun (K : Int × im_S → Prop) (a : Int × im_S) => C_fillCells4_57 K l1 a.1 a.2 Q) (0, s428))))))) ∧ (¬ ((cgf s 2 11) ≤ l2) → (C_fillSigns4 l2 s (fun s429 => (K11 ((w32 (l2 + 1)), s429))))))
def C_fillCells4 (s : im_S) (Q : im_S → Prop) : Prop := (ploop (fun (K : Int × im_S → Prop) (a : Int × im_S) => C_fillCells4_11 K (w32 ((w32 (2 * (cgf s 1 4))) + 1)) a.1 a.2 Q) (0, s))
set_option maxRecDepth 16384 in
theorem c_fillCells4 (L : Nat) (ys : Nat → Int32) (d : Nat) (s : im_S) (hv : jI s) (Q : im_S → Prop) (hW : C_fillCells4 s Q) : pcV L ys d 152 [(2, ((1 : Nat) : Int))] s (fun s9 => jI s9 ∧ Q s9) := by
  intro res hres
  refine pq_start (M := rm_p_X4_fillCells) (Q := (fun r : im_Re => r.1 = none ∧ (jI r.2 ∧ Q r.2))) om_X4_fillCells (fun d N => ?_) res hres
  refine pq_w [(0, (2, ((1 : Nat) : Int)))] ⟨rfl, trivial⟩ ?_
  have J57 : ∀ (l1 : Int) (l1r : iR l1) (I57 : Int × im_S → Prop) (hB57 : ∀ a : Int × im_S, I57 a → C_fillCells4_57 I57 l1 a.1 a.2 Q), ∀ N57 : Nat, N57 ≤ N → ∀ (l2 : Int) (l2r : iR l2) (s : im_S) (hv : jI s), I57 (l2, s) → pq L ys d N57 rm_p_X4_fillCells (57, [(0, (2, ((1 : Nat) : Int))), (1, (0, l1)), (2, (0, l2))], [], s) (fun r : im_Re => r.1 = none ∧ (jI r.2 ∧ Q r.2)) := by
    intro l1 l1r I57 hB57 N57
    induction N57 using Nat.strongRecOn with
    | _ N57 ih57 =>
      intro hN57 l2 l2r s hv hI
      have hW : C_fillCells4_57 I57 l1 l2 s Q := hB57 (l2, s) hI
      have J161 : ∀ N161 : Nat, N161 ≤ N57 → ∀ (l2 : Int) (l2r : iR l2) (s : im_S) (hv : jI s), C_fillCells4_161 I57 l1 l2 s Q → pq L ys d N161 rm_p_X4_fillCells (161, [(0, (2, ((1 : Nat) : Int))), (1, (0, l1)), (2, (0, l2))], [], s) (fun r : im_Re => r.1 = none ∧ (jI r.2 ∧ Q r.2)) := by
        intro N161 hN161 l2 l2r s hv hW
        unfold C_fillCells4_161 at hW
        refine pq_inc (pc' := 164) rfl rfl rfl rfl ?_
        refine pq_gotoT (pc' := 57) rfl rfl (fun m1 m1l => ?_)
        refine pq_w [(0, (2, ((1 : Nat) : Int))), (1, (0, l1)), (2, (0, (w32 (l2 + 1))))] ⟨rfl, rfl, rfl, trivial⟩ ?_
        exact ih57 m1 (by omega) (by omega) (w32 (l2 + 1)) (w32_r _) s hv hW
      unfold C_fillCells4_57 at hW
      refine pq_l (pc' := 58) rfl rfl rfl rfl rfl ?_
      refine pq_l (pc' := 59) rfl rfl rfl rfl rfl ?_
      refine pq_c_ge (pt := 167) (pc' := 62) rfl rfl rfl (fun c2 => ?_) (fun c2 => ?_)
      · have hW := hW.1 c2
        exact pq_vret rfl ⟨rfl, hv, hW⟩
      · have hW := hW.2 c2
        refine pq_l (pc' := 63) rfl rfl rfl rfl rfl ?_
        refine pq_gr (pc' := 66) (c := 581) (v := 581) rfl rfl rfl rfl rfl rfl hv ?_
        refine pq_l (pc' := 67) rfl rfl rfl rfl rfl ?_
        refine pq_k (pc' := 68) (v := (0, 0)) rfl rfl rfl (fun _ => rfl) ?_
        refine pq_is (pc' := 69) rfl rfl (by decide) (by decide) hv (fun s3a s3b s3 s3e s3v => ?_)
        have hW := hW ⟨s3a, s3b⟩ s3 s3e
        refine pq_l (pc' := 70) rfl rfl rfl rfl rfl ?_
        refine pq_gr (pc' := 73) (c := 579) (v := 579) rfl rfl rfl rfl rfl rfl s3v ?_
        refine pq_l (pc' := 74) rfl rfl rfl rfl rfl ?_
        refine pq_l (pc' := 75) rfl rfl rfl rfl rfl ?_
        refine pq_gr (pc' := 78) (c := 2) (v := 2) rfl rfl rfl rfl rfl rfl s3v ?_
        refine pq_l (pc' := 79) rfl rfl rfl rfl rfl ?_
        refine pq_l (pc' := 80) rfl rfl rfl rfl rfl ?_
        refine pq_cVI (pc' := 83) rfl rfl rfl rfl rfl (c_trueAtoms4 L ys d s3 s3v l2 l2r _ hW) (fun z5 s4 hr => ?_)
        obtain ⟨s4v, z5r, hW⟩ := hr
        refine pq_cVI (pc' := 86) rfl rfl rfl rfl rfl (c_fulfilledBy7 L ys d s4 s4v z5 z5r _ hW) (fun z7 s6 hr => ?_)
        obtain ⟨s6v, z7r, hW⟩ := hr
        refine pq_bs (pc' := 87) rfl rfl (by decide) (by decide) s6v (fun s8a s8 s8e s8v => ?_)
        have hW := hW s8 s8e
        refine pq_l (pc' := 88) rfl rfl rfl rfl rfl ?_
        refine pq_gr (pc' := 91) (c := 579) (v := 579) rfl rfl rfl rfl rfl rfl s8v ?_
        refine pq_l (pc' := 92) rfl rfl rfl rfl rfl ?_
        refine pq_ba (pc' := 93) rfl rfl (fun r9a r9 => ?_)
        refine pq_z_eq (pt := 161) (pc' := 96) rfl rfl rfl (fun c10 => ?_) (fun c10 => ?_)
        · have hW := hW.1 c10
          refine pq_w [(0, (2, ((1 : Nat) : Int))), (1, (0, l1)), (2, (0, l2))] ⟨rfl, rfl, rfl, trivial⟩ ?_
          exact J161 N57 (by omega) l2 l2r s8 s8v hW
        · have hW := hW.2 c10
          refine pq_l (pc' := 97) rfl rfl rfl rfl rfl ?_
          refine pq_x (pc' := 98) rfl rfl rfl (fun _ => rfl) ?_
          refine pq_gi (pc' := 101) rfl rfl rfl rfl rfl (fun r11 => ?_)
          refine pq_l (pc' := 102) rfl rfl rfl rfl rfl ?_
          refine pq_gi (pc' := 105) rfl rfl rfl rfl rfl (fun r12 => ?_)
          refine pq_l (pc' := 106) rfl rfl rfl rfl rfl ?_
          refine pq_k (pc' := 107) (v := (0, 1)) rfl rfl rfl (fun _ => rfl) ?_
          refine pq_sub (pc' := 108) rfl rfl ?_
          have J214 : ∀ v213 : Int, iR v213 → ((∀ s215, s215 = cpf s8 1 10 (w32 ((cgf s8 1 10) + v213)) → (∀ v417 : Int, v417 = (if ¬ ((cgf s215 1 7) = 0) then (cgf s215 1 8) else l2) → (∀ s419, s419 = cpf s215 1 8 v417 → (∀ s420, s420 = cpf s419 1 9 l2 → (∀ s422, s422 = cpf s420 1 7 (w32 ((cgf s420 1 7) + 1)) → (C_fillCells4_161 I57 l1 l2 s422 Q))))))) → pq L ys d N57 rm_p_X4_fillCells (123, [(0, (2, ((1 : Nat) : Int))), (1, (0, l1)), (2, (0, l2))], [(0, v213), (0, (cgf s8 1 10)), (2, ((1 : Nat) : Int))], s8) (fun r : im_Re => r.1 = none ∧ (jI r.2 ∧ Q r.2)) := by
            intro v213 v213r hW
            refine pq_add (pc' := 124) rfl rfl ?_
            refine pq_pX (pc' := 127) rfl rfl rfl rfl (fun e => absurd e (by decide)) (fun e => absurd e (by decide)) s8v (fun s215 s215e s215v => ?_)
            have hW := hW s215 s215e
            refine pq_l (pc' := 128) rfl rfl rfl rfl rfl ?_
            refine pq_l (pc' := 129) rfl rfl rfl rfl rfl ?_
            refine pq_gi (pc' := 132) rfl rfl rfl rfl rfl (fun r216 => ?_)
            have J418 : ∀ v417 : Int, iR v417 → ((∀ s419, s419 = cpf s215 1 8 v417 → (∀ s420, s420 = cpf s419 1 9 l2 → (∀ s422, s422 = cpf s420 1 7 (w32 ((cgf s420 1 7) + 1)) → (C_fillCells4_161 I57 l1 l2 s422 Q))))) → pq L ys d N57 rm_p_X4_fillCells (143, [(0, (2, ((1 : Nat) : Int))), (1, (0, l1)), (2, (0, l2))], [(0, v417), (2, ((1 : Nat) : Int))], s215) (fun r : im_Re => r.1 = none ∧ (jI r.2 ∧ Q r.2)) := by
              intro v417 v417r hW
              refine pq_pX (pc' := 146) rfl rfl rfl rfl (fun e => absurd e (by decide)) (fun e => absurd e (by decide)) s215v (fun s419 s419e s419v => ?_)
              have hW := hW s419 s419e
              refine pq_l (pc' := 147) rfl rfl rfl rfl rfl ?_
              refine pq_l (pc' := 148) rfl rfl rfl rfl rfl ?_
              refine pq_pX (pc' := 151) rfl rfl rfl rfl (fun e => absurd e (by decide)) (fun e => absurd e (by decide)) s419v (fun s420 s420e s420v => ?_)
              have hW := hW s420 s420e
              refine pq_l (pc' := 152) rfl rfl rfl rfl rfl ?_
              refine pq_x (pc' := 153) rfl rfl rfl (fun _ => rfl) ?_
              refine pq_gi (pc' := 156) rfl rfl rfl rfl rfl (fun r421 => ?_)
              refine pq_k (pc' := 157) (v := (0, 1)) rfl rfl rfl (fun _ => rfl) ?_
              refine pq_add (pc' := 158) rfl rfl ?_
              refine pq_pX (pc' := 161) rfl rfl rfl rfl (fun e => absurd e (by decide)) (fun e => absurd e (by decide)) s420v (fun s422 s422e s422v => ?_)
              have hW := hW s422 s422e
              refine pq_w [(0, (2, ((1 : Nat) : Int))), (1, (0, l1)), (2, (0, l2))] ⟨rfl, rfl, rfl, trivial⟩ ?_
              exact J161 N57 (by omega) l2 l2r s422 s422v hW
            refine pq_z_ne (pt := 139) (pc' := 135) rfl rfl rfl (fun c217 => ?_) (fun c217 => ?_)
            · refine pq_l (pc' := 140) rfl rfl rfl rfl rfl ?_
              refine pq_gi (pc' := 143) rfl rfl rfl rfl rfl (fun r218 => ?_)
              refine pq_w [(0, (2, ((1 : Nat) : Int))), (1, (0, l1)), (2, (0, l2))] ⟨rfl, rfl, rfl, trivial⟩ ?_
              exact J418 (cgf s215 1 8) r218 (hW _ (by rw [if_pos c217]))
            · refine pq_l (pc' := 136) rfl rfl rfl rfl rfl ?_
              refine pq_goto (pc' := 143) rfl rfl ?_
              refine pq_w [(0, (2, ((1 : Nat) : Int))), (1, (0, l1)), (2, (0, l2))] ⟨rfl, rfl, rfl, trivial⟩ ?_
              exact J418 l2 l2r (hW _ (by rw [if_neg (by omega)]))
          refine pq_c_ne (pt := 118) (pc' := 111) rfl rfl rfl (fun c13 => ?_) (fun c13 => ?_)
          · refine pq_k (pc' := 119) (v := (0, 1)) rfl rfl rfl (fun _ => rfl) ?_
            refine pq_goto (pc' := 123) rfl rfl ?_
            refine pq_w [(0, (2, ((1 : Nat) : Int))), (1, (0, l1)), (2, (0, l2))] ⟨rfl, rfl, rfl, trivial⟩ ?_
            exact J214 1 (⟨by decide, by decide⟩ : iR 1) (hW _ (by rw [if_pos c13]))
          · refine pq_l (pc' := 112) rfl rfl rfl rfl rfl ?_
            refine pq_gi (pc' := 115) rfl rfl rfl rfl rfl (fun r14 => ?_)
            refine pq_z_ne (pt := 122) (pc' := 118) rfl rfl rfl (fun c15 => ?_) (fun c15 => ?_)
            · refine pq_k (pc' := 123) (v := (0, 0)) rfl rfl rfl (fun _ => rfl) ?_
              refine pq_w [(0, (2, ((1 : Nat) : Int))), (1, (0, l1)), (2, (0, l2))] ⟨rfl, rfl, rfl, trivial⟩ ?_
              exact J214 0 (⟨by decide, by decide⟩ : iR 0) (hW _ (by rw [if_neg (by omega), if_pos c15]))
            · refine pq_k (pc' := 119) (v := (0, 1)) rfl rfl rfl (fun _ => rfl) ?_
              refine pq_goto (pc' := 123) rfl rfl ?_
              refine pq_w [(0, (2, ((1 : Nat) : Int))), (1, (0, l1)), (2, (0, l2))] ⟨rfl, rfl, rfl, trivial⟩ ?_
              exact J214 1 (⟨by decide, by decide⟩ : iR 1) (hW _ (by rw [if_neg (by omega), if_neg (by omega)]))
  have J11 : ∀ (l1 : Int) (l1r : iR l1) (I11 : Int × im_S → Prop) (hB11 : ∀ a : Int × im_S, I11 a → C_fillCells4_11 I11 l1 a.1 a.2 Q), ∀ N11 : Nat, N11 ≤ N → ∀ (l2 : Int) (l2r : iR l2) (s : im_S) (hv : jI s), I11 (l2, s) → pq L ys d N11 rm_p_X4_fillCells (11, [(0, (2, ((1 : Nat) : Int))), (1, (0, l1)), (2, (0, l2))], [], s) (fun r : im_Re => r.1 = none ∧ (jI r.2 ∧ Q r.2)) := by
    intro l1 l1r I11 hB11 N11
    induction N11 using Nat.strongRecOn with
    | _ N11 ih11 =>
      intro hN11 l2 l2r s hv hI
      have hW : C_fillCells4_11 I11 l1 l2 s Q := hB11 (l2, s) hI
      unfold C_fillCells4_11 at hW
      refine pq_l (pc' := 12) rfl rfl rfl rfl rfl ?_
      refine pq_l (pc' := 13) rfl rfl rfl rfl rfl ?_
      refine pq_gr (pc' := 16) (c := 2) (v := 2) rfl rfl rfl rfl rfl rfl hv ?_
      refine pq_gi (pc' := 19) rfl rfl rfl rfl rfl (fun r423 => ?_)
      refine pq_c_ge (pt := 33) (pc' := 22) rfl rfl rfl (fun c424 => ?_) (fun c424 => ?_)
      · have hW := hW.1 c424
        refine pq_l (pc' := 34) rfl rfl rfl rfl rfl ?_
        refine pq_k (pc' := 35) (v := (0, 0)) rfl rfl rfl (fun _ => rfl) ?_
        refine pq_pX (pc' := 38) rfl rfl rfl rfl (fun e => absurd e (by decide)) (fun e => absurd e (by decide)) hv (fun s425 s425e s425v => ?_)
        have hW := hW s425 s425e
        refine pq_l (pc' := 39) rfl rfl rfl rfl rfl ?_
        refine pq_k (pc' := 40) (v := (0, 0)) rfl rfl rfl (fun _ => rfl) ?_
        refine pq_pX (pc' := 43) rfl rfl rfl rfl (fun e => absurd e (by decide)) (fun e => absurd e (by decide)) s425v (fun s426 s426e s426v => ?_)
        have hW := hW s426 s426e
        refine pq_l (pc' := 44) rfl rfl rfl rfl rfl ?_
        refine pq_k (pc' := 46) (v := (0, (-2))) rfl rfl rfl (fun _ => rfl) ?_
        refine pq_pX (pc' := 49) rfl rfl rfl rfl (fun e => absurd e (by decide)) (fun e => absurd e (by decide)) s426v (fun s427 s427e s427v => ?_)
        have hW := hW s427 s427e
        refine pq_l (pc' := 50) rfl rfl rfl rfl rfl ?_
        refine pq_k (pc' := 52) (v := (0, (-2))) rfl rfl rfl (fun _ => rfl) ?_
        refine pq_pX (pc' := 55) rfl rfl rfl rfl (fun e => absurd e (by decide)) (fun e => absurd e (by decide)) s427v (fun s428 s428e s428v => ?_)
        have hW := hW s428 s428e
        refine pq_k (pc' := 56) (v := (0, 0)) rfl rfl rfl (fun _ => rfl) ?_
        refine pq_s (pc' := 57) rfl rfl rfl rfl rfl ?_
        refine pq_w [(0, (2, ((1 : Nat) : Int))), (1, (0, l1)), (2, (0, 0))] ⟨rfl, rfl, rfl, trivial⟩ ?_
        obtain ⟨I9, hI9, hB9⟩ := hW
        exact J57 l1 l1r I9 hB9 N11 (by omega) 0 (⟨by decide, by decide⟩ : iR 0) s428 s428v hI9
      · have hW := hW.2 c424
        refine pq_l (pc' := 23) rfl rfl rfl rfl rfl ?_
        refine pq_l (pc' := 24) rfl rfl rfl rfl rfl ?_
        refine pq_cVV (pc' := 27) rfl rfl rfl rfl rfl (c_fillSigns4 L ys d s hv l2 l2r _ hW) (fun s429 hr => ?_)
        obtain ⟨s429v, hW⟩ := hr
        refine pq_inc (pc' := 30) rfl rfl rfl rfl ?_
        refine pq_gotoT (pc' := 11) rfl rfl (fun m431 m431l => ?_)
        refine pq_w [(0, (2, ((1 : Nat) : Int))), (1, (0, l1)), (2, (0, (w32 (l2 + 1))))] ⟨rfl, rfl, rfl, trivial⟩ ?_
        exact ih11 m431 (by omega) (by omega) (w32 (l2 + 1)) (w32_r _) s429 s429v hW
  unfold C_fillCells4 at hW
  refine pq_k (pc' := 1) (v := (0, 2)) rfl rfl rfl (fun _ => rfl) ?_
  refine pq_l (pc' := 2) rfl rfl rfl rfl rfl ?_
  refine pq_gi (pc' := 5) rfl rfl rfl rfl rfl (fun r432 => ?_)
  refine pq_mul (pc' := 6) rfl rfl ?_
  refine pq_k (pc' := 7) (v := (0, 1)) rfl rfl rfl (fun _ => rfl) ?_
  refine pq_add (pc' := 8) rfl rfl ?_
  refine pq_s (pc' := 9) rfl rfl rfl rfl rfl ?_
  refine pq_k (pc' := 10) (v := (0, 0)) rfl rfl rfl (fun _ => rfl) ?_
  refine pq_s (pc' := 11) rfl rfl rfl rfl rfl ?_
  refine pq_w [(0, (2, ((1 : Nat) : Int))), (1, (0, (w32 ((w32 (2 * (cgf s 1 4))) + 1)))), (2, (0, 0))] ⟨rfl, rfl, rfl, trivial⟩ ?_
  obtain ⟨I9, hI9, hB9⟩ := hW
  exact J11 (w32 ((w32 (2 * (cgf s 1 4))) + 1)) (w32_r _) I9 hB9 N (by omega) 0 (⟨by decide, by decide⟩ : iR 0) s hv hI9
def C_scaledFloor3_69 (l1 : Nat) (l2 : Int) (l4 : Int) (s : im_S) (Q : Int → im_S → Prop) : Prop := (Q (w64 ((w64 ((cgf s l1 4) * l2)) + l4)) s)
def C_scaledFloor3 (l1 : Nat) (l2 : Int) (s : im_S) (Q : Int → im_S → Prop) : Prop := (((cgf s l1 1) = 0 → ((l2 ≤ (w64 ((ushJ (w64 ((cgf s l1 5) * l2)) 32) + 1)) → (C_scaledFloor3_69 l1 l2 (ushJ (w64 ((cgf s l1 5) * l2)) 32) s Q)) ∧ (¬ (l2 ≤ (w64 ((ushJ (w64 ((cgf s l1 5) * l2)) 32) + 1))) → (C_compareWith3 l1 (cgf s l1 4) (w64 ((ushJ (w64 ((cgf s l1 5) * l2)) 32) + 1)) l2 s (fun z9 s8 => (∀ v210 : Int, v210 = (if z9 ≤ 0 then (ushJ (w64 ((cgf s l1 5) * l2)) 32) else (w64 ((ushJ (w64 ((cgf s l1 5) * l2)) 32) + 1))) → (C_scaledFloor3_69 l1 l2 v210 s8 Q))))))) ∧ (¬ ((cgf s l1 1) = 0) → (Q (w64 ((w64 ((cgf s l1 4) * l2)) + (divJ (w64 ((cgf s l1 5) * l2)) (cgf s l1 3)))) s)))
set_option maxRecDepth 16384 in
theorem c_scaledFloor3 (L : Nat) (ys : Nat → Int32) (d : Nat) (s : im_S) (hv : jI s) (l1 : Nat) (l2 : Int) (l2r : lR l2) (Q : Int → im_S → Prop) (hW : C_scaledFloor3 l1 l2 s Q) : pcI L ys 1 d 139 [(2, ((83 : Nat) : Int)), (2, ((l1 : Nat) : Int)), (1, l2)] s (fun z9 s9 => jI s9 ∧ lR z9 ∧ Q z9 s9) := by
  intro res hres
  refine pq_start (M := rm_p_X3_scaledFloor) (Q := (fun r : im_Re => ∃ z, r.1 = some (1, z) ∧ (jI r.2 ∧ lR z ∧ Q z r.2))) om_X3_scaledFloor (fun d N => ?_) res hres
  refine pq_w [(0, (2, ((83 : Nat) : Int))), (1, (2, ((l1 : Nat) : Int))), (2, (1, l2))] ⟨rfl, rfl, rfl, trivial⟩ ?_
  have J69 : ∀ N69 : Nat, N69 ≤ N → ∀ (l1 : Nat) (l2 : Int) (l2r : lR l2) (l4 : Int) (l4r : lR l4) (s : im_S) (hv : jI s), C_scaledFloor3_69 l1 l2 l4 s Q → pq L ys d N69 rm_p_X3_scaledFloor (69, [(1, (2, ((l1 : Nat) : Int))), (2, (1, l2)), (4, (1, l4))], [], s) (fun r : im_Re => ∃ z, r.1 = some (1, z) ∧ (jI r.2 ∧ lR z ∧ Q z r.2)) := by
    intro N69 hN69 l1 l2 l2r l4 l4r s hv hW
    unfold C_scaledFloor3_69 at hW
    refine pq_l (pc' := 70) rfl rfl rfl rfl rfl ?_
    refine pq_gj (pc' := 73) rfl rfl rfl rfl (fun r1 => ?_)
    refine pq_l (pc' := 74) rfl rfl rfl rfl rfl ?_
    refine pq_lmul (pc' := 75) rfl rfl ?_
    refine pq_l (pc' := 77) rfl rfl rfl rfl rfl ?_
    refine pq_ladd (pc' := 78) rfl rfl ?_
    exact pq_lret rfl ⟨_, rfl, hv, (w64_r _), hW⟩
  unfold C_scaledFloor3 at hW
  refine pq_l (pc' := 1) rfl rfl rfl rfl rfl ?_
  refine pq_gi (pc' := 4) rfl rfl rfl rfl rfl (fun r2 => ?_)
  refine pq_z_eq (pt := 26) (pc' := 7) rfl rfl rfl (fun c3 => ?_) (fun c3 => ?_)
  · have hW := hW.1 c3
    refine pq_l (pc' := 27) rfl rfl rfl rfl rfl ?_
    refine pq_gj (pc' := 30) rfl rfl rfl rfl (fun r4 => ?_)
    refine pq_l (pc' := 31) rfl rfl rfl rfl rfl ?_
    refine pq_lmul (pc' := 32) rfl rfl ?_
    refine pq_k (pc' := 34) (v := (0, 32)) rfl rfl rfl (fun _ => rfl) ?_
    refine pq_lushr (pc' := 35) rfl rfl ?_
    refine pq_s2 (pc' := 37) rfl rfl rfl rfl rfl ?_
    refine pq_l (pc' := 39) rfl rfl rfl rfl rfl ?_
    refine pq_k (pc' := 40) (v := (1, 1)) rfl rfl rfl (fun _ => rfl) ?_
    refine pq_ladd (pc' := 41) rfl rfl ?_
    refine pq_l (pc' := 42) rfl rfl rfl rfl rfl ?_
    refine pq_lcmp (pc' := 43) rfl rfl (w64_r _) l2r (fun z5 z5c => ?_)
    refine pq_z_ge (pt := 69) (pc' := 46) rfl rfl rfl (fun c6 => ?_) (fun c6 => ?_)
    · have c6 : l2 ≤ (w64 ((ushJ (w64 ((cgf s l1 5) * l2)) 32) + 1)) := by omega
      have hW := hW.1 c6
      refine pq_w [(1, (2, ((l1 : Nat) : Int))), (2, (1, l2)), (4, (1, (ushJ (w64 ((cgf s l1 5) * l2)) 32)))] ⟨rfl, rfl, rfl, trivial⟩ ?_
      exact J69 N (by omega) l1 l2 l2r (ushJ (w64 ((cgf s l1 5) * l2)) 32) (ushJ_r _ _) s hv hW
    · have c6 : ¬ (l2 ≤ (w64 ((ushJ (w64 ((cgf s l1 5) * l2)) 32) + 1))) := by omega
      have hW := hW.2 c6
      refine pq_l (pc' := 47) rfl rfl rfl rfl rfl ?_
      refine pq_l (pc' := 48) rfl rfl rfl rfl rfl ?_
      refine pq_l (pc' := 49) rfl rfl rfl rfl rfl ?_
      refine pq_gj (pc' := 52) rfl rfl rfl rfl (fun r7 => ?_)
      refine pq_l (pc' := 54) rfl rfl rfl rfl rfl ?_
      refine pq_k (pc' := 55) (v := (1, 1)) rfl rfl rfl (fun _ => rfl) ?_
      refine pq_ladd (pc' := 56) rfl rfl ?_
      refine pq_l (pc' := 57) rfl rfl rfl rfl rfl ?_
      refine pq_cVI (pc' := 60) rfl rfl rfl rfl rfl (c_compareWith3 L ys d s hv l1 (cgf s l1 4) r7 (w64 ((ushJ (w64 ((cgf s l1 5) * l2)) 32) + 1)) (w64_r _) l2 l2r _ hW) (fun z9 s8 hr => ?_)
      obtain ⟨s8v, z9r, hW⟩ := hr
      have J211 : ∀ v210 : Int, lR v210 → ((C_scaledFloor3_69 l1 l2 v210 s8 Q)) → pq L ys d N rm_p_X3_scaledFloor (69, [(1, (2, ((l1 : Nat) : Int))), (2, (1, l2)), (4, (1, v210))], [], s8) (fun r : im_Re => ∃ z, r.1 = some (1, z) ∧ (jI r.2 ∧ lR z ∧ Q z r.2)) := by
        intro v210 v210r hW
        refine pq_w [(1, (2, ((l1 : Nat) : Int))), (2, (1, l2)), (4, (1, v210))] ⟨rfl, rfl, rfl, trivial⟩ ?_
        exact J69 N (by omega) l1 l2 l2r v210 v210r s8 s8v hW
      refine pq_z_le (pt := 69) (pc' := 63) rfl rfl rfl (fun c10 => ?_) (fun c10 => ?_)
      · refine pq_w [(1, (2, ((l1 : Nat) : Int))), (2, (1, l2)), (4, (1, (ushJ (w64 ((cgf s l1 5) * l2)) 32)))] ⟨rfl, rfl, rfl, trivial⟩ ?_
        exact J211 (ushJ (w64 ((cgf s l1 5) * l2)) 32) (ushJ_r _ _) (hW _ (by rw [if_pos c10]))
      · refine pq_l (pc' := 65) rfl rfl rfl rfl rfl ?_
        refine pq_k (pc' := 66) (v := (1, 1)) rfl rfl rfl (fun _ => rfl) ?_
        refine pq_ladd (pc' := 67) rfl rfl ?_
        refine pq_s2 (pc' := 69) rfl rfl rfl rfl rfl ?_
        refine pq_w [(1, (2, ((l1 : Nat) : Int))), (2, (1, l2)), (4, (1, (w64 ((ushJ (w64 ((cgf s l1 5) * l2)) 32) + 1))))] ⟨rfl, rfl, rfl, trivial⟩ ?_
        exact J211 (w64 ((ushJ (w64 ((cgf s l1 5) * l2)) 32) + 1)) (w64_r _) (hW _ (by rw [if_neg (fun z => c10 z)]))
  · have hW := hW.2 c3
    refine pq_l (pc' := 8) rfl rfl rfl rfl rfl ?_
    refine pq_gj (pc' := 11) rfl rfl rfl rfl (fun r212 => ?_)
    refine pq_l (pc' := 12) rfl rfl rfl rfl rfl ?_
    refine pq_lmul (pc' := 13) rfl rfl ?_
    refine pq_l (pc' := 14) rfl rfl rfl rfl rfl ?_
    refine pq_gj (pc' := 17) rfl rfl rfl rfl (fun r213 => ?_)
    refine pq_l (pc' := 18) rfl rfl rfl rfl rfl ?_
    refine pq_lmul (pc' := 19) rfl rfl ?_
    refine pq_l (pc' := 20) rfl rfl rfl rfl rfl ?_
    refine pq_gj (pc' := 23) rfl rfl rfl rfl (fun r214 => ?_)
    refine pq_ldiv (pc' := 24) rfl rfl ?_
    refine pq_ladd (pc' := 25) rfl rfl ?_
    exact pq_lret rfl ⟨_, rfl, hv, (w64_r _), hW⟩
def C_rootsOf4_4 (K4 : Int × Int × im_S → Prop) (l1 : Int) (l2 : Int) (l3 : Int) (s : im_S) (Q : Int → im_S → Prop) : Prop := (((cgf s 1 4) ≤ l3 → (Q l2 s)) ∧ (¬ ((cgf s 1 4) ≤ l3) → (C_rootAt4 l3 s (fun z4 s3 => (C_multiplicity0 (cgf s3 z4 0) l1 s3 (fun z7 s6 => (∀ v208 : Int, v208 = (if z7 ≤ 0 then 0 else 1) → (K4 ((w32 (l2 + v208)), (w32 (l3 + 1)), s6)))))))))
def C_rootsOf4 (l1 : Int) (s : im_S) (Q : Int → im_S → Prop) : Prop := (ploop (fun (K : Int × Int × im_S → Prop) (a : Int × Int × im_S) => C_rootsOf4_4 K l1 a.1 a.2.1 a.2.2 Q) (0, 0, s))
set_option maxRecDepth 16384 in
theorem c_rootsOf4 (L : Nat) (ys : Nat → Int32) (d : Nat) (s : im_S) (hv : jI s) (l1 : Int) (l1r : iR l1) (Q : Int → im_S → Prop) (hW : C_rootsOf4 l1 s Q) : pcI L ys 0 d 158 [(2, ((1 : Nat) : Int)), (0, l1)] s (fun z9 s9 => jI s9 ∧ iR z9 ∧ Q z9 s9) := by
  intro res hres
  refine pq_start (M := rm_p_X4_rootsOf) (Q := (fun r : im_Re => ∃ z, r.1 = some (0, z) ∧ (jI r.2 ∧ iR z ∧ Q z r.2))) om_X4_rootsOf (fun d N => ?_) res hres
  refine pq_w [(0, (2, ((1 : Nat) : Int))), (1, (0, l1))] ⟨rfl, rfl, trivial⟩ ?_
  have J4 : ∀ (l1 : Int) (l1r : iR l1) (I4 : Int × Int × im_S → Prop) (hB4 : ∀ a : Int × Int × im_S, I4 a → C_rootsOf4_4 I4 l1 a.1 a.2.1 a.2.2 Q), ∀ N4 : Nat, N4 ≤ N → ∀ (l2 : Int) (l2r : iR l2) (l3 : Int) (l3r : iR l3) (s : im_S) (hv : jI s), I4 (l2, l3, s) → pq L ys d N4 rm_p_X4_rootsOf (4, [(0, (2, ((1 : Nat) : Int))), (1, (0, l1)), (2, (0, l2)), (3, (0, l3))], [], s) (fun r : im_Re => ∃ z, r.1 = some (0, z) ∧ (jI r.2 ∧ iR z ∧ Q z r.2)) := by
    intro l1 l1r I4 hB4 N4
    induction N4 using Nat.strongRecOn with
    | _ N4 ih4 =>
      intro hN4 l2 l2r l3 l3r s hv hI
      have hW : C_rootsOf4_4 I4 l1 l2 l3 s Q := hB4 (l2, l3, s) hI
      unfold C_rootsOf4_4 at hW
      refine pq_l (pc' := 5) rfl rfl rfl rfl rfl ?_
      refine pq_l (pc' := 6) rfl rfl rfl rfl rfl ?_
      refine pq_gi (pc' := 9) rfl rfl rfl rfl rfl (fun r1 => ?_)
      refine pq_c_ge (pt := 45) (pc' := 12) rfl rfl rfl (fun c2 => ?_) (fun c2 => ?_)
      · have hW := hW.1 c2
        refine pq_l (pc' := 46) rfl rfl rfl rfl rfl ?_
        exact pq_iret rfl ⟨_, rfl, hv, l2r, hW⟩
      · have hW := hW.2 c2
        refine pq_l (pc' := 13) rfl rfl rfl rfl rfl ?_
        refine pq_l (pc' := 14) rfl rfl rfl rfl rfl ?_
        refine pq_gr (pc' := 17) (c := 84) (v := 84) rfl rfl rfl rfl rfl rfl hv ?_
        refine pq_l (pc' := 18) rfl rfl rfl rfl rfl ?_
        refine pq_l (pc' := 19) rfl rfl rfl rfl rfl ?_
        refine pq_cVR (pc' := 22) rfl rfl rfl rfl rfl (c_rootAt4 L ys d s hv l3 l3r _ hW) (fun z4 s3 hr => ?_)
        obtain ⟨s3v, z4n, hW⟩ := hr
        refine pq_gi (pc' := 25) rfl rfl rfl rfl rfl (fun r5 => ?_)
        refine pq_l (pc' := 26) rfl rfl rfl rfl rfl ?_
        refine pq_cVI (pc' := 29) rfl rfl rfl rfl rfl (c_multiplicity0 L ys d s3 s3v (cgf s3 z4 0) r5 l1 l1r _ hW) (fun z7 s6 hr => ?_)
        obtain ⟨s6v, z7r, hW⟩ := hr
        have J209 : ∀ v208 : Int, iR v208 → ((I4 ((w32 (l2 + v208)), (w32 (l3 + 1)), s6))) → pq L ys d N4 rm_p_X4_rootsOf (37, [(0, (2, ((1 : Nat) : Int))), (1, (0, l1)), (3, (0, l3))], [(0, v208), (0, l2)], s6) (fun r : im_Re => ∃ z, r.1 = some (0, z) ∧ (jI r.2 ∧ iR z ∧ Q z r.2)) := by
          intro v208 v208r hW
          refine pq_add (pc' := 38) rfl rfl ?_
          refine pq_s (pc' := 39) rfl rfl rfl rfl rfl ?_
          refine pq_inc (pc' := 42) rfl rfl rfl rfl ?_
          refine pq_gotoT (pc' := 4) rfl rfl (fun m210 m210l => ?_)
          refine pq_w [(0, (2, ((1 : Nat) : Int))), (1, (0, l1)), (2, (0, (w32 (l2 + v208)))), (3, (0, (w32 (l3 + 1))))] ⟨rfl, rfl, rfl, rfl, trivial⟩ ?_
          exact ih4 m210 (by omega) (by omega) (w32 (l2 + v208)) (w32_r _) (w32 (l3 + 1)) (w32_r _) s6 s6v hW
        refine pq_z_le (pt := 36) (pc' := 32) rfl rfl rfl (fun c8 => ?_) (fun c8 => ?_)
        · refine pq_k (pc' := 37) (v := (0, 0)) rfl rfl rfl (fun _ => rfl) ?_
          refine pq_w [(0, (2, ((1 : Nat) : Int))), (1, (0, l1)), (3, (0, l3))] ⟨rfl, rfl, rfl, trivial⟩ ?_
          exact J209 0 (⟨by decide, by decide⟩ : iR 0) (hW _ (by rw [if_pos c8]))
        · refine pq_k (pc' := 33) (v := (0, 1)) rfl rfl rfl (fun _ => rfl) ?_
          refine pq_goto (pc' := 37) rfl rfl ?_
          refine pq_w [(0, (2, ((1 : Nat) : Int))), (1, (0, l1)), (3, (0, l3))] ⟨rfl, rfl, rfl, trivial⟩ ?_
          exact J209 1 (⟨by decide, by decide⟩ : iR 1) (hW _ (by rw [if_neg (fun z => c8 z)]))
  unfold C_rootsOf4 at hW
  refine pq_k (pc' := 1) (v := (0, 0)) rfl rfl rfl (fun _ => rfl) ?_
  refine pq_s (pc' := 2) rfl rfl rfl rfl rfl ?_
  refine pq_k (pc' := 3) (v := (0, 0)) rfl rfl rfl (fun _ => rfl) ?_
  refine pq_s (pc' := 4) rfl rfl rfl rfl rfl ?_
  refine pq_w [(0, (2, ((1 : Nat) : Int))), (1, (0, l1)), (2, (0, 0)), (3, (0, 0))] ⟨rfl, rfl, rfl, rfl, trivial⟩ ?_
  obtain ⟨I9, hI9, hB9⟩ := hW
  exact J4 l1 l1r I9 hB9 N (by omega) 0 (⟨by decide, by decide⟩ : iR 0) 0 (⟨by decide, by decide⟩ : iR 0) s hv hI9
def C_distinctRoots0_4 (K4 : Int × Int × im_S → Prop) (l1 : Int) (l2 : Int) (l3 : Int) (s : im_S) (Q : Int → im_S → Prop) : Prop := (((cgf s 84 2) ≤ l3 → (Q l2 s)) ∧ (¬ ((cgf s 84 2) ≤ l3) → (C_multiplicity0 l3 l1 s (fun z4 s3 => (∀ v205 : Int, v205 = (if z4 ≤ 0 then 0 else (cgf s3 (86 + 2 * (l3).toNat) 0)) → (K4 ((w32 (l2 + v205)), (w32 (l3 + 1)), s3)))))))
def C_distinctRoots0 (l1 : Int) (s : im_S) (Q : Int → im_S → Prop) : Prop := (ploop (fun (K : Int × Int × im_S → Prop) (a : Int × Int × im_S) => C_distinctRoots0_4 K l1 a.1 a.2.1 a.2.2 Q) (0, 0, s))
set_option maxRecDepth 16384 in
theorem c_distinctRoots0 (L : Nat) (ys : Nat → Int32) (d : Nat) (s : im_S) (hv : jI s) (l1 : Int) (l1r : iR l1) (Q : Int → im_S → Prop) (hW : C_distinctRoots0 l1 s Q) : pcI L ys 0 d 1 [(2, ((84 : Nat) : Int)), (0, l1)] s (fun z9 s9 => jI s9 ∧ iR z9 ∧ Q z9 s9) := by
  intro res hres
  refine pq_start (M := rm_p_X0_distinctRoots) (Q := (fun r : im_Re => ∃ z, r.1 = some (0, z) ∧ (jI r.2 ∧ iR z ∧ Q z r.2))) om_X0_distinctRoots (fun d N => ?_) res hres
  refine pq_w [(0, (2, ((84 : Nat) : Int))), (1, (0, l1))] ⟨rfl, rfl, trivial⟩ ?_
  have J4 : ∀ (l1 : Int) (l1r : iR l1) (I4 : Int × Int × im_S → Prop) (hB4 : ∀ a : Int × Int × im_S, I4 a → C_distinctRoots0_4 I4 l1 a.1 a.2.1 a.2.2 Q), ∀ N4 : Nat, N4 ≤ N → ∀ (l2 : Int) (l2r : iR l2) (l3 : Int) (l3r : iR l3) (s : im_S) (hv : jI s), I4 (l2, l3, s) → pq L ys d N4 rm_p_X0_distinctRoots (4, [(0, (2, ((84 : Nat) : Int))), (1, (0, l1)), (2, (0, l2)), (3, (0, l3))], [], s) (fun r : im_Re => ∃ z, r.1 = some (0, z) ∧ (jI r.2 ∧ iR z ∧ Q z r.2)) := by
    intro l1 l1r I4 hB4 N4
    induction N4 using Nat.strongRecOn with
    | _ N4 ih4 =>
      intro hN4 l2 l2r l3 l3r s hv hI
      have hW : C_distinctRoots0_4 I4 l1 l2 l3 s Q := hB4 (l2, l3, s) hI
      unfold C_distinctRoots0_4 at hW
      refine pq_l (pc' := 5) rfl rfl rfl rfl rfl ?_
      refine pq_l (pc' := 6) rfl rfl rfl rfl rfl ?_
      refine pq_gi (pc' := 9) rfl rfl rfl rfl rfl (fun r1 => ?_)
      refine pq_c_ge (pt := 43) (pc' := 12) rfl rfl rfl (fun c2 => ?_) (fun c2 => ?_)
      · have hW := hW.1 c2
        refine pq_l (pc' := 44) rfl rfl rfl rfl rfl ?_
        exact pq_iret rfl ⟨_, rfl, hv, l2r, hW⟩
      · have hW := hW.2 c2
        refine pq_l (pc' := 13) rfl rfl rfl rfl rfl ?_
        refine pq_l (pc' := 14) rfl rfl rfl rfl rfl ?_
        refine pq_l (pc' := 15) rfl rfl rfl rfl rfl ?_
        refine pq_l (pc' := 16) rfl rfl rfl rfl rfl ?_
        refine pq_cVI (pc' := 19) rfl rfl rfl rfl rfl (c_multiplicity0 L ys d s hv l3 l3r l1 l1r _ hW) (fun z4 s3 hr => ?_)
        obtain ⟨s3v, z4r, hW⟩ := hr
        have J206 : ∀ v205 : Int, iR v205 → ((I4 ((w32 (l2 + v205)), (w32 (l3 + 1)), s3))) → pq L ys d N4 rm_p_X0_distinctRoots (35, [(0, (2, ((84 : Nat) : Int))), (1, (0, l1)), (3, (0, l3))], [(0, v205), (0, l2)], s3) (fun r : im_Re => ∃ z, r.1 = some (0, z) ∧ (jI r.2 ∧ iR z ∧ Q z r.2)) := by
          intro v205 v205r hW
          refine pq_add (pc' := 36) rfl rfl ?_
          refine pq_s (pc' := 37) rfl rfl rfl rfl rfl ?_
          refine pq_inc (pc' := 40) rfl rfl rfl rfl ?_
          refine pq_gotoT (pc' := 4) rfl rfl (fun m207 m207l => ?_)
          refine pq_w [(0, (2, ((84 : Nat) : Int))), (1, (0, l1)), (2, (0, (w32 (l2 + v205)))), (3, (0, (w32 (l3 + 1))))] ⟨rfl, rfl, rfl, rfl, trivial⟩ ?_
          exact ih4 m207 (by omega) (by omega) (w32 (l2 + v205)) (w32_r _) (w32 (l3 + 1)) (w32_r _) s3 s3v hW
        refine pq_z_le (pt := 34) (pc' := 22) rfl rfl rfl (fun c5 => ?_) (fun c5 => ?_)
        · refine pq_k (pc' := 35) (v := (0, 0)) rfl rfl rfl (fun _ => rfl) ?_
          refine pq_w [(0, (2, ((84 : Nat) : Int))), (1, (0, l1)), (3, (0, l3))] ⟨rfl, rfl, rfl, trivial⟩ ?_
          exact J206 0 (⟨by decide, by decide⟩ : iR 0) (hW _ (by rw [if_pos c5]))
        · refine pq_l (pc' := 23) rfl rfl rfl rfl rfl ?_
          refine pq_gr (pc' := 26) (c := 85) (v := 85) rfl rfl rfl rfl rfl rfl s3v ?_
          refine pq_l (pc' := 27) rfl rfl rfl rfl rfl ?_
          refine pq_aa (pc' := 28) (b := 86) (k := 2) (n := 80) (m := 80) rfl rfl rfl rfl rfl s3v (fun r6a r6b => ?_)
          refine pq_gi (pc' := 31) rfl rfl rfl rfl rfl (fun r7 => ?_)
          refine pq_goto (pc' := 35) rfl rfl ?_
          refine pq_w [(0, (2, ((84 : Nat) : Int))), (1, (0, l1)), (3, (0, l3))] ⟨rfl, rfl, rfl, trivial⟩ ?_
          exact J206 (cgf s3 (86 + 2 * (l3).toNat) 0) r7 (hW _ (by rw [if_neg (fun z => c5 z)]))
  unfold C_distinctRoots0 at hW
  refine pq_k (pc' := 1) (v := (0, 0)) rfl rfl rfl (fun _ => rfl) ?_
  refine pq_s (pc' := 2) rfl rfl rfl rfl rfl ?_
  refine pq_k (pc' := 3) (v := (0, 0)) rfl rfl rfl (fun _ => rfl) ?_
  refine pq_s (pc' := 4) rfl rfl rfl rfl rfl ?_
  refine pq_w [(0, (2, ((84 : Nat) : Int))), (1, (0, l1)), (2, (0, 0)), (3, (0, 0))] ⟨rfl, rfl, rfl, rfl, trivial⟩ ?_
  obtain ⟨I9, hI9, hB9⟩ := hW
  exact J4 l1 l1r I9 hB9 N (by omega) 0 (⟨by decide, by decide⟩ : iR 0) 0 (⟨by decide, by decide⟩ : iR 0) s hv hI9
def C_sharedDegree0_55 (K4 : Int × Int × im_S → Prop) (K18 : Int × Int × im_S → Prop) (l1 : Int) (l2 : Int) (l3 : Int) (l5 : Int) (k0 : Int) (s : im_S) (Q : Int → im_S → Prop) : Prop := (K18 (k0, (w32 (l5 + 1)), s))
def C_sharedDegree0_18 (K4 : Int × Int × im_S → Prop) (K18 : Int × Int × im_S → Prop) (l1 : Int) (l2 : Int) (l3 : Int) (l4 : Int) (l5 : Int) (s : im_S) (Q : Int → im_S → Prop) : Prop := ((10 ≤ l5 → (∀ v203 : Int, v203 = (if l4 = 0 then 0 else (cgf s (86 + 2 * (l3).toNat) 0)) → (K4 ((w32 (l2 + v203)), (w32 (l3 + 1)), s)))) ∧ (¬ (10 ≤ l5) → ((l4 = 0 → (C_sharedDegree0_55 K4 K18 l1 l2 l3 l5 0 s Q)) ∧ (¬ (l4 = 0) → (C_multiplicity0 l1 l5 s (fun z208 s207 => ((z208 = 0 → (C_sharedDegree0_55 K4 K18 l1 l2 l3 l5 1 s207 Q)) ∧ (¬ (z208 = 0) → (C_multiplicity0 l3 l5 s207 (fun z211 s210 => (∀ v412 : Int, v412 = (if z211 ≤ 0 then 0 else 1) → (C_sharedDegree0_55 K4 K18 l1 l2 l3 l5 v412 s210 Q))))))))))))
def C_sharedDegree0_4 (K4 : Int × Int × im_S → Prop) (l1 : Int) (l2 : Int) (l3 : Int) (s : im_S) (Q : Int → im_S → Prop) : Prop := (((cgf s 84 2) ≤ l3 → (Q l2 s)) ∧ (¬ ((cgf s 84 2) ≤ l3) → (ploop (fun (K : Int × Int × im_S → Prop) (a : Int × Int × im_S) => C_sharedDegree0_18 K4 K l1 l2 l3 a.1 a.2.1 a.2.2 Q) (1, 0, s))))
def C_sharedDegree0 (l1 : Int) (s : im_S) (Q : Int → im_S → Prop) : Prop := (ploop (fun (K : Int × Int × im_S → Prop) (a : Int × Int × im_S) => C_sharedDegree0_4 K l1 a.1 a.2.1 a.2.2 Q) (0, 0, s))
set_option maxRecDepth 16384 in
theorem c_sharedDegree0 (L : Nat) (ys : Nat → Int32) (d : Nat) (s : im_S) (hv : jI s) (l1 : Int) (l1r : iR l1) (Q : Int → im_S → Prop) (hW : C_sharedDegree0 l1 s Q) : pcI L ys 0 d 5 [(2, ((84 : Nat) : Int)), (0, l1)] s (fun z9 s9 => jI s9 ∧ iR z9 ∧ Q z9 s9) := by
  intro res hres
  refine pq_start (M := rm_p_X0_sharedDegree) (Q := (fun r : im_Re => ∃ z, r.1 = some (0, z) ∧ (jI r.2 ∧ iR z ∧ Q z r.2))) om_X0_sharedDegree (fun d N => ?_) res hres
  refine pq_w [(0, (2, ((84 : Nat) : Int))), (1, (0, l1))] ⟨rfl, rfl, trivial⟩ ?_
  have J4 : ∀ (l1 : Int) (l1r : iR l1) (I4 : Int × Int × im_S → Prop) (hB4 : ∀ a : Int × Int × im_S, I4 a → C_sharedDegree0_4 I4 l1 a.1 a.2.1 a.2.2 Q), ∀ N4 : Nat, N4 ≤ N → ∀ (l2 : Int) (l2r : iR l2) (l3 : Int) (l3r : iR l3) (s : im_S) (hv : jI s), I4 (l2, l3, s) → pq L ys d N4 rm_p_X0_sharedDegree (4, [(0, (2, ((84 : Nat) : Int))), (1, (0, l1)), (2, (0, l2)), (3, (0, l3))], [], s) (fun r : im_Re => ∃ z, r.1 = some (0, z) ∧ (jI r.2 ∧ iR z ∧ Q z r.2)) := by
    intro l1 l1r I4 hB4 N4
    induction N4 using Nat.strongRecOn with
    | _ N4 ih4 =>
      intro hN4 l2 l2r l3 l3r s hv hI
      have hW : C_sharedDegree0_4 I4 l1 l2 l3 s Q := hB4 (l2, l3, s) hI
      have J18 : ∀ (l2 : Int) (l2r : iR l2) (l3 : Int) (l3r : iR l3) (I18 : Int × Int × im_S → Prop) (hB18 : ∀ a : Int × Int × im_S, I18 a → C_sharedDegree0_18 I4 I18 l1 l2 l3 a.1 a.2.1 a.2.2 Q), ∀ N18 : Nat, N18 ≤ N4 → ∀ (l4 : Int) (l4r : iR l4) (l5 : Int) (l5r : iR l5) (s : im_S) (hv : jI s), I18 (l4, l5, s) → pq L ys d N18 rm_p_X0_sharedDegree (18, [(0, (2, ((84 : Nat) : Int))), (1, (0, l1)), (2, (0, l2)), (3, (0, l3)), (4, (0, l4)), (5, (0, l5))], [], s) (fun r : im_Re => ∃ z, r.1 = some (0, z) ∧ (jI r.2 ∧ iR z ∧ Q z r.2)) := by
        intro l2 l2r l3 l3r I18 hB18 N18
        induction N18 using Nat.strongRecOn with
        | _ N18 ih18 =>
          intro hN18 l4 l4r l5 l5r s hv hI
          have hW : C_sharedDegree0_18 I4 I18 l1 l2 l3 l4 l5 s Q := hB18 (l4, l5, s) hI
          have J55 : ∀ N55 : Nat, N55 ≤ N18 → ∀ (l5 : Int) (l5r : iR l5) (k0 : Int) (k0r : iR k0) (s : im_S) (hv : jI s), C_sharedDegree0_55 I4 I18 l1 l2 l3 l5 k0 s Q → pq L ys d N55 rm_p_X0_sharedDegree (55, [(0, (2, ((84 : Nat) : Int))), (1, (0, l1)), (2, (0, l2)), (3, (0, l3)), (5, (0, l5))], [(0, k0)], s) (fun r : im_Re => ∃ z, r.1 = some (0, z) ∧ (jI r.2 ∧ iR z ∧ Q z r.2)) := by
            intro N55 hN55 l5 l5r k0 k0r s hv hW
            unfold C_sharedDegree0_55 at hW
            refine pq_s (pc' := 57) rfl rfl rfl rfl rfl ?_
            refine pq_inc (pc' := 60) rfl rfl rfl rfl ?_
            refine pq_gotoT (pc' := 18) rfl rfl (fun m1 m1l => ?_)
            refine pq_w [(0, (2, ((84 : Nat) : Int))), (1, (0, l1)), (2, (0, l2)), (3, (0, l3)), (4, (0, k0)), (5, (0, (w32 (l5 + 1))))] ⟨rfl, rfl, rfl, rfl, rfl, rfl, trivial⟩ ?_
            exact ih18 m1 (by omega) (by omega) k0 k0r (w32 (l5 + 1)) (w32_r _) s hv hW
          unfold C_sharedDegree0_18 at hW
          refine pq_l (pc' := 20) rfl rfl rfl rfl rfl ?_
          refine pq_k (pc' := 22) (v := (0, 10)) rfl rfl rfl (fun _ => rfl) ?_
          refine pq_c_ge (pt := 63) (pc' := 25) rfl rfl rfl (fun c2 => ?_) (fun c2 => ?_)
          · have hW := hW.1 c2
            refine pq_l (pc' := 64) rfl rfl rfl rfl rfl ?_
            refine pq_l (pc' := 66) rfl rfl rfl rfl rfl ?_
            have J204 : ∀ v203 : Int, iR v203 → ((I4 ((w32 (l2 + v203)), (w32 (l3 + 1)), s))) → pq L ys d N18 rm_p_X0_sharedDegree (82, [(0, (2, ((84 : Nat) : Int))), (1, (0, l1)), (3, (0, l3))], [(0, v203), (0, l2)], s) (fun r : im_Re => ∃ z, r.1 = some (0, z) ∧ (jI r.2 ∧ iR z ∧ Q z r.2)) := by
              intro v203 v203r hW
              refine pq_add (pc' := 83) rfl rfl ?_
              refine pq_s (pc' := 84) rfl rfl rfl rfl rfl ?_
              refine pq_inc (pc' := 87) rfl rfl rfl rfl ?_
              refine pq_gotoT (pc' := 4) rfl rfl (fun m205 m205l => ?_)
              refine pq_w [(0, (2, ((84 : Nat) : Int))), (1, (0, l1)), (2, (0, (w32 (l2 + v203)))), (3, (0, (w32 (l3 + 1))))] ⟨rfl, rfl, rfl, rfl, trivial⟩ ?_
              exact ih4 m205 (by omega) (by omega) (w32 (l2 + v203)) (w32_r _) (w32 (l3 + 1)) (w32_r _) s hv hW
            refine pq_z_eq (pt := 81) (pc' := 69) rfl rfl rfl (fun c3 => ?_) (fun c3 => ?_)
            · refine pq_k (pc' := 82) (v := (0, 0)) rfl rfl rfl (fun _ => rfl) ?_
              refine pq_w [(0, (2, ((84 : Nat) : Int))), (1, (0, l1)), (3, (0, l3))] ⟨rfl, rfl, rfl, trivial⟩ ?_
              exact J204 0 (⟨by decide, by decide⟩ : iR 0) (hW _ (by rw [if_pos c3]))
            · refine pq_l (pc' := 70) rfl rfl rfl rfl rfl ?_
              refine pq_gr (pc' := 73) (c := 85) (v := 85) rfl rfl rfl rfl rfl rfl hv ?_
              refine pq_l (pc' := 74) rfl rfl rfl rfl rfl ?_
              refine pq_aa (pc' := 75) (b := 86) (k := 2) (n := 80) (m := 80) rfl rfl rfl rfl rfl hv (fun r4a r4b => ?_)
              refine pq_gi (pc' := 78) rfl rfl rfl rfl rfl (fun r5 => ?_)
              refine pq_goto (pc' := 82) rfl rfl ?_
              refine pq_w [(0, (2, ((84 : Nat) : Int))), (1, (0, l1)), (3, (0, l3))] ⟨rfl, rfl, rfl, trivial⟩ ?_
              exact J204 (cgf s (86 + 2 * (l3).toNat) 0) r5 (hW _ (by rw [if_neg (fun z => c3 z)]))
          · have hW := hW.2 c2
            refine pq_l (pc' := 27) rfl rfl rfl rfl rfl ?_
            refine pq_z_eq (pt := 54) (pc' := 30) rfl rfl rfl (fun c206 => ?_) (fun c206 => ?_)
            · have hW := hW.1 c206
              refine pq_k (pc' := 55) (v := (0, 0)) rfl rfl rfl (fun _ => rfl) ?_
              refine pq_w [(0, (2, ((84 : Nat) : Int))), (1, (0, l1)), (2, (0, l2)), (3, (0, l3)), (5, (0, l5))] ⟨rfl, rfl, rfl, rfl, rfl, trivial⟩ ?_
              exact J55 N18 (by omega) l5 l5r 0 (⟨by decide, by decide⟩ : iR 0) s hv hW
            · have hW := hW.2 c206
              refine pq_l (pc' := 31) rfl rfl rfl rfl rfl ?_
              refine pq_l (pc' := 32) rfl rfl rfl rfl rfl ?_
              refine pq_l (pc' := 34) rfl rfl rfl rfl rfl ?_
              refine pq_cVI (pc' := 37) rfl rfl rfl rfl rfl (c_multiplicity0 L ys d s hv l1 l1r l5 l5r _ hW) (fun z208 s207 hr => ?_)
              obtain ⟨s207v, z208r, hW⟩ := hr
              refine pq_z_eq (pt := 50) (pc' := 40) rfl rfl rfl (fun c209 => ?_) (fun c209 => ?_)
              · have hW := hW.1 c209
                refine pq_k (pc' := 51) (v := (0, 1)) rfl rfl rfl (fun _ => rfl) ?_
                refine pq_goto (pc' := 55) rfl rfl ?_
                refine pq_w [(0, (2, ((84 : Nat) : Int))), (1, (0, l1)), (2, (0, l2)), (3, (0, l3)), (5, (0, l5))] ⟨rfl, rfl, rfl, rfl, rfl, trivial⟩ ?_
                exact J55 N18 (by omega) l5 l5r 1 (⟨by decide, by decide⟩ : iR 1) s207 s207v hW
              · have hW := hW.2 c209
                refine pq_l (pc' := 41) rfl rfl rfl rfl rfl ?_
                refine pq_l (pc' := 42) rfl rfl rfl rfl rfl ?_
                refine pq_l (pc' := 44) rfl rfl rfl rfl rfl ?_
                refine pq_cVI (pc' := 47) rfl rfl rfl rfl rfl (c_multiplicity0 L ys d s207 s207v l3 l3r l5 l5r _ hW) (fun z211 s210 hr => ?_)
                obtain ⟨s210v, z211r, hW⟩ := hr
                have J413 : ∀ v412 : Int, iR v412 → ((C_sharedDegree0_55 I4 I18 l1 l2 l3 l5 v412 s210 Q)) → pq L ys d N18 rm_p_X0_sharedDegree (55, [(0, (2, ((84 : Nat) : Int))), (1, (0, l1)), (2, (0, l2)), (3, (0, l3)), (5, (0, l5))], [(0, v412)], s210) (fun r : im_Re => ∃ z, r.1 = some (0, z) ∧ (jI r.2 ∧ iR z ∧ Q z r.2)) := by
                  intro v412 v412r hW
                  refine pq_w [(0, (2, ((84 : Nat) : Int))), (1, (0, l1)), (2, (0, l2)), (3, (0, l3)), (5, (0, l5))] ⟨rfl, rfl, rfl, rfl, rfl, trivial⟩ ?_
                  exact J55 N18 (by omega) l5 l5r v412 v412r s210 s210v hW
                refine pq_z_le (pt := 54) (pc' := 50) rfl rfl rfl (fun c212 => ?_) (fun c212 => ?_)
                · refine pq_k (pc' := 55) (v := (0, 0)) rfl rfl rfl (fun _ => rfl) ?_
                  refine pq_w [(0, (2, ((84 : Nat) : Int))), (1, (0, l1)), (2, (0, l2)), (3, (0, l3)), (5, (0, l5))] ⟨rfl, rfl, rfl, rfl, rfl, trivial⟩ ?_
                  exact J413 0 (⟨by decide, by decide⟩ : iR 0) (hW _ (by rw [if_pos c212]))
                · refine pq_k (pc' := 51) (v := (0, 1)) rfl rfl rfl (fun _ => rfl) ?_
                  refine pq_goto (pc' := 55) rfl rfl ?_
                  refine pq_w [(0, (2, ((84 : Nat) : Int))), (1, (0, l1)), (2, (0, l2)), (3, (0, l3)), (5, (0, l5))] ⟨rfl, rfl, rfl, rfl, rfl, trivial⟩ ?_
                  exact J413 1 (⟨by decide, by decide⟩ : iR 1) (hW _ (by rw [if_neg (fun z => c212 z)]))
      unfold C_sharedDegree0_4 at hW
      refine pq_l (pc' := 5) rfl rfl rfl rfl rfl ?_
      refine pq_l (pc' := 6) rfl rfl rfl rfl rfl ?_
      refine pq_gi (pc' := 9) rfl rfl rfl rfl rfl (fun r414 => ?_)
      refine pq_c_ge (pt := 90) (pc' := 12) rfl rfl rfl (fun c415 => ?_) (fun c415 => ?_)
      · have hW := hW.1 c415
        refine pq_l (pc' := 91) rfl rfl rfl rfl rfl ?_
        exact pq_iret rfl ⟨_, rfl, hv, l2r, hW⟩
      · have hW := hW.2 c415
        refine pq_k (pc' := 13) (v := (0, 1)) rfl rfl rfl (fun _ => rfl) ?_
        refine pq_s (pc' := 15) rfl rfl rfl rfl rfl ?_
        refine pq_k (pc' := 16) (v := (0, 0)) rfl rfl rfl (fun _ => rfl) ?_
        refine pq_s (pc' := 18) rfl rfl rfl rfl rfl ?_
        refine pq_w [(0, (2, ((84 : Nat) : Int))), (1, (0, l1)), (2, (0, l2)), (3, (0, l3)), (4, (0, 1)), (5, (0, 0))] ⟨rfl, rfl, rfl, rfl, rfl, rfl, trivial⟩ ?_
        obtain ⟨I9, hI9, hB9⟩ := hW
        exact J18 l2 l2r l3 l3r I9 hB9 N4 (by omega) 1 (⟨by decide, by decide⟩ : iR 1) 0 (⟨by decide, by decide⟩ : iR 0) s hv hI9
  unfold C_sharedDegree0 at hW
  refine pq_k (pc' := 1) (v := (0, 0)) rfl rfl rfl (fun _ => rfl) ?_
  refine pq_s (pc' := 2) rfl rfl rfl rfl rfl ?_
  refine pq_k (pc' := 3) (v := (0, 0)) rfl rfl rfl (fun _ => rfl) ?_
  refine pq_s (pc' := 4) rfl rfl rfl rfl rfl ?_
  refine pq_w [(0, (2, ((84 : Nat) : Int))), (1, (0, l1)), (2, (0, 0)), (3, (0, 0))] ⟨rfl, rfl, rfl, rfl, trivial⟩ ?_
  obtain ⟨I9, hI9, hB9⟩ := hW
  exact J4 l1 l1r I9 hB9 N (by omega) 0 (⟨by decide, by decide⟩ : iR 0) 0 (⟨by decide, by decide⟩ : iR 0) s hv hI9
def C_locate4_9 (K9 : Int × Int × im_S → Prop) (l1 : Int) (l3 : Int) (l5 : Int) (l7 : Int) (l8 : Int) (s : im_S) (Q : Int → im_S → Prop) : Prop := ((l8 ≤ l7 → (Q (w32 (2 * l7)) s)) ∧ (¬ (l8 ≤ l7) → (C_rootAt4 (divI (w32 (l7 + l8)) 2) s (fun z3 s2 => (C_compareWith3 z3 l1 l3 l5 s2 (fun z5 s4 => ((¬ (z5 = 0) → (∀ v207 : Int, v207 = (if 0 ≤ z5 then l7 else (w32 ((divI (w32 (l7 + l8)) 2) + 1))) → ∀ v208 : Int, v208 = (if 0 ≤ z5 then (divI (w32 (l7 + l8)) 2) else l8) → (K9 (v207, v208, s4)))) ∧ (z5 = 0 → (Q (w32 ((w32 (2 * (divI (w32 (l7 + l8)) 2))) + 1)) s4)))))))))
def C_locate4 (l1 : Int) (l3 : Int) (l5 : Int) (s : im_S) (Q : Int → im_S → Prop) : Prop := (ploop (fun (K : Int × Int × im_S → Prop) (a : Int × Int × im_S) => C_locate4_9 K l1 l3 l5 a.1 a.2.1 a.2.2 Q) (0, (cgf s 1 4), s))
set_option maxRecDepth 16384 in
theorem c_locate4 (L : Nat) (ys : Nat → Int32) (d : Nat) (s : im_S) (hv : jI s) (l1 : Int) (l1r : lR l1) (l3 : Int) (l3r : lR l3) (l5 : Int) (l5r : lR l5) (Q : Int → im_S → Prop) (hW : C_locate4 l1 l3 l5 s Q) : pcI L ys 0 d 156 [(2, ((1 : Nat) : Int)), (1, l1), (1, l3), (1, l5)] s (fun z9 s9 => jI s9 ∧ iR z9 ∧ Q z9 s9) := by
  intro res hres
  refine pq_start (M := rm_p_X4_locate) (Q := (fun r : im_Re => ∃ z, r.1 = some (0, z) ∧ (jI r.2 ∧ iR z ∧ Q z r.2))) om_X4_locate (fun d N => ?_) res hres
  refine pq_w [(0, (2, ((1 : Nat) : Int))), (1, (1, l1)), (3, (1, l3)), (5, (1, l5))] ⟨rfl, rfl, rfl, rfl, trivial⟩ ?_
  have J9 : ∀ (l1 : Int) (l1r : lR l1) (l3 : Int) (l3r : lR l3) (l5 : Int) (l5r : lR l5) (I9 : Int × Int × im_S → Prop) (hB9 : ∀ a : Int × Int × im_S, I9 a → C_locate4_9 I9 l1 l3 l5 a.1 a.2.1 a.2.2 Q), ∀ N9 : Nat, N9 ≤ N → ∀ (l7 : Int) (l7r : iR l7) (l8 : Int) (l8r : iR l8) (s : im_S) (hv : jI s), I9 (l7, l8, s) → pq L ys d N9 rm_p_X4_locate (9, [(0, (2, ((1 : Nat) : Int))), (1, (1, l1)), (3, (1, l3)), (5, (1, l5)), (7, (0, l7)), (8, (0, l8))], [], s) (fun r : im_Re => ∃ z, r.1 = some (0, z) ∧ (jI r.2 ∧ iR z ∧ Q z r.2)) := by
    intro l1 l1r l3 l3r l5 l5r I9 hB9 N9
    induction N9 using Nat.strongRecOn with
    | _ N9 ih9 =>
      intro hN9 l7 l7r l8 l8r s hv hI
      have hW : C_locate4_9 I9 l1 l3 l5 l7 l8 s Q := hB9 (l7, l8, s) hI
      unfold C_locate4_9 at hW
      refine pq_l (pc' := 11) rfl rfl rfl rfl rfl ?_
      refine pq_l (pc' := 13) rfl rfl rfl rfl rfl ?_
      refine pq_c_ge (pt := 77) (pc' := 16) rfl rfl rfl (fun c1 => ?_) (fun c1 => ?_)
      · have hW := hW.1 c1
        refine pq_k (pc' := 78) (v := (0, 2)) rfl rfl rfl (fun _ => rfl) ?_
        refine pq_l (pc' := 80) rfl rfl rfl rfl rfl ?_
        refine pq_mul (pc' := 81) rfl rfl ?_
        exact pq_iret rfl ⟨_, rfl, hv, (w32_r _), hW⟩
      · have hW := hW.2 c1
        refine pq_l (pc' := 18) rfl rfl rfl rfl rfl ?_
        refine pq_l (pc' := 20) rfl rfl rfl rfl rfl ?_
        refine pq_add (pc' := 21) rfl rfl ?_
        refine pq_k (pc' := 22) (v := (0, 2)) rfl rfl rfl (fun _ => rfl) ?_
        refine pq_idiv (pc' := 23) rfl rfl ?_
        refine pq_s (pc' := 25) rfl rfl rfl rfl rfl ?_
        refine pq_l (pc' := 26) rfl rfl rfl rfl rfl ?_
        refine pq_gr (pc' := 29) (c := 83) (v := 83) rfl rfl rfl rfl rfl rfl hv ?_
        refine pq_l (pc' := 30) rfl rfl rfl rfl rfl ?_
        refine pq_l (pc' := 32) rfl rfl rfl rfl rfl ?_
        refine pq_cVR (pc' := 35) rfl rfl rfl rfl rfl (c_rootAt4 L ys d s hv (divI (w32 (l7 + l8)) 2) (divI_r _ _) _ hW) (fun z3 s2 hr => ?_)
        obtain ⟨s2v, z3n, hW⟩ := hr
        refine pq_l (pc' := 36) rfl rfl rfl rfl rfl ?_
        refine pq_l (pc' := 37) rfl rfl rfl rfl rfl ?_
        refine pq_l (pc' := 39) rfl rfl rfl rfl rfl ?_
        refine pq_cVI (pc' := 42) rfl rfl rfl rfl rfl (c_compareWith3 L ys d s2 s2v z3 l1 l1r l3 l3r l5 l5r _ hW) (fun z5 s4 hr => ?_)
        obtain ⟨s4v, z5r, hW⟩ := hr
        refine pq_s (pc' := 44) rfl rfl rfl rfl rfl ?_
        refine pq_l (pc' := 46) rfl rfl rfl rfl rfl ?_
        refine pq_z_ne (pt := 56) (pc' := 49) rfl rfl rfl (fun c6 => ?_) (fun c6 => ?_)
        · have hW := hW.1 c6
          refine pq_l (pc' := 58) rfl rfl rfl rfl rfl ?_
          have J209 : ∀ v207 : Int, iR v207 → ∀ v208 : Int, iR v208 → ((I9 (v207, v208, s4))) → pq L ys d N9 rm_p_X4_locate (74, [(0, (2, ((1 : Nat) : Int))), (1, (1, l1)), (3, (1, l3)), (5, (1, l5)), (7, (0, v207)), (8, (0, v208))], [], s4) (fun r : im_Re => ∃ z, r.1 = some (0, z) ∧ (jI r.2 ∧ iR z ∧ Q z r.2)) := by
            intro v207 v207r v208 v208r hW
            refine pq_gotoT (pc' := 9) rfl rfl (fun m210 m210l => ?_)
            refine pq_w [(0, (2, ((1 : Nat) : Int))), (1, (1, l1)), (3, (1, l3)), (5, (1, l5)), (7, (0, v207)), (8, (0, v208))] ⟨rfl, rfl, rfl, rfl, rfl, rfl, trivial⟩ ?_
            exact ih9 m210 (by omega) (by omega) v207 v207r v208 v208r s4 s4v hW
          refine pq_z_ge (pt := 70) (pc' := 61) rfl rfl rfl (fun c7 => ?_) (fun c7 => ?_)
          · refine pq_l (pc' := 72) rfl rfl rfl rfl rfl ?_
            refine pq_s (pc' := 74) rfl rfl rfl rfl rfl ?_
            refine pq_w [(0, (2, ((1 : Nat) : Int))), (1, (1, l1)), (3, (1, l3)), (5, (1, l5)), (7, (0, l7)), (8, (0, (divI (w32 (l7 + l8)) 2)))] ⟨rfl, rfl, rfl, rfl, rfl, rfl, trivial⟩ ?_
            exact J209 l7 l7r (divI (w32 (l7 + l8)) 2) (divI_r _ _) (hW _ (by rw [if_pos c7]) _ (by rw [if_pos c7]))
          · refine pq_l (pc' := 63) rfl rfl rfl rfl rfl ?_
            refine pq_k (pc' := 64) (v := (0, 1)) rfl rfl rfl (fun _ => rfl) ?_
            refine pq_add (pc' := 65) rfl rfl ?_
            refine pq_s (pc' := 67) rfl rfl rfl rfl rfl ?_
            refine pq_goto (pc' := 74) rfl rfl ?_
            refine pq_w [(0, (2, ((1 : Nat) : Int))), (1, (1, l1)), (3, (1, l3)), (5, (1, l5)), (7, (0, (w32 ((divI (w32 (l7 + l8)) 2) + 1)))), (8, (0, l8))] ⟨rfl, rfl, rfl, rfl, rfl, rfl, trivial⟩ ?_
            exact J209 (w32 ((divI (w32 (l7 + l8)) 2) + 1)) (w32_r _) l8 l8r (hW _ (by rw [if_neg (fun z => c7 z)]) _ (by rw [if_neg (fun z => c7 z)]))
        · have hW := hW.2 c6
          refine pq_k (pc' := 50) (v := (0, 2)) rfl rfl rfl (fun _ => rfl) ?_
          refine pq_l (pc' := 52) rfl rfl rfl rfl rfl ?_
          refine pq_mul (pc' := 53) rfl rfl ?_
          refine pq_k (pc' := 54) (v := (0, 1)) rfl rfl rfl (fun _ => rfl) ?_
          refine pq_add (pc' := 55) rfl rfl ?_
          exact pq_iret rfl ⟨_, rfl, s4v, (w32_r _), hW⟩
  unfold C_locate4 at hW
  refine pq_k (pc' := 1) (v := (0, 0)) rfl rfl rfl (fun _ => rfl) ?_
  refine pq_s (pc' := 3) rfl rfl rfl rfl rfl ?_
  refine pq_l (pc' := 4) rfl rfl rfl rfl rfl ?_
  refine pq_gi (pc' := 7) rfl rfl rfl rfl rfl (fun r211 => ?_)
  refine pq_s (pc' := 9) rfl rfl rfl rfl rfl ?_
  refine pq_w [(0, (2, ((1 : Nat) : Int))), (1, (1, l1)), (3, (1, l3)), (5, (1, l5)), (7, (0, 0)), (8, (0, (cgf s 1 4)))] ⟨rfl, rfl, rfl, rfl, rfl, rfl, trivial⟩ ?_
  obtain ⟨I9, hI9, hB9⟩ := hW
  exact J9 l1 l1r l3 l3r l5 l5r I9 hB9 N (by omega) 0 (⟨by decide, by decide⟩ : iR 0) (cgf s 1 4) r211 s hv hI9
def C_fillAt4_63 (s : im_S) (Q : im_S → Prop) : Prop := (Q s)
def C_fillAt4 (l1 : Int) (s : im_S) (Q : im_S → Prop) : Prop := (C_rootAt4 (divI l1 2) s (fun z2 s1 => ((0 ≤ l1 ∧ l1 < gln 580) → ∀ s4, s4 = cpa s1 580 l1 (cgf s1 z2 2) → ((¬ ((cgf s4 z2 1) = 0) → (∀ v209 : Int, v209 = (if (cgf s4 z2 3) ≤ 2000 then (w32 (cgf s4 z2 3)) else (-3)) → ((0 ≤ l1 ∧ l1 < gln 581) → ∀ s211, s211 = cpa s4 581 l1 v209 → (C_fillAt4_63 s211 Q)))) ∧ ((cgf s4 z2 1) = 0 → ((0 ≤ l1 ∧ l1 < gln 581) → ∀ s212, s212 = cpa s4 581 l1 (-2) → (C_fillAt4_63 s212 Q)))))))
set_option maxRecDepth 16384 in
theorem c_fillAt4 (L : Nat) (ys : Nat → Int32) (d : Nat) (s : im_S) (hv : jI s) (l1 : Int) (l1r : iR l1) (Q : im_S → Prop) (hW : C_fillAt4 l1 s Q) : pcV L ys d 150 [(2, ((1 : Nat) : Int)), (0, l1)] s (fun s9 => jI s9 ∧ Q s9) := by
  intro res hres
  refine pq_start (M := rm_p_X4_fillAt) (Q := (fun r : im_Re => r.1 = none ∧ (jI r.2 ∧ Q r.2))) om_X4_fillAt (fun d N => ?_) res hres
  refine pq_w [(0, (2, ((1 : Nat) : Int))), (1, (0, l1))] ⟨rfl, rfl, trivial⟩ ?_
  have J63 : ∀ N63 : Nat, N63 ≤ N → ∀ (s : im_S) (hv : jI s), C_fillAt4_63 s Q → pq L ys d N63 rm_p_X4_fillAt (63, [], [], s) (fun r : im_Re => r.1 = none ∧ (jI r.2 ∧ Q r.2)) := by
    intro N63 hN63 s hv hW
    unfold C_fillAt4_63 at hW
    exact pq_vret rfl ⟨rfl, hv, hW⟩
  unfold C_fillAt4 at hW
  refine pq_l (pc' := 1) rfl rfl rfl rfl rfl ?_
  refine pq_l (pc' := 2) rfl rfl rfl rfl rfl ?_
  refine pq_k (pc' := 3) (v := (0, 2)) rfl rfl rfl (fun _ => rfl) ?_
  refine pq_idiv (pc' := 4) rfl rfl ?_
  refine pq_cVR (pc' := 7) rfl rfl rfl rfl rfl (c_rootAt4 L ys d s hv (divI l1 2) (divI_r _ _) _ hW) (fun z2 s1 hr => ?_)
  obtain ⟨s1v, z2n, hW⟩ := hr
  refine pq_s (pc' := 8) rfl rfl rfl rfl rfl ?_
  refine pq_l (pc' := 9) rfl rfl rfl rfl rfl ?_
  refine pq_gr (pc' := 12) (c := 580) (v := 580) rfl rfl rfl rfl rfl rfl s1v ?_
  refine pq_l (pc' := 13) rfl rfl rfl rfl rfl ?_
  refine pq_l (pc' := 14) rfl rfl rfl rfl rfl ?_
  refine pq_gj (pc' := 17) rfl rfl rfl rfl (fun r3 => ?_)
  refine pq_ls (pc' := 18) rfl rfl s1v (fun s4a s4b s4 s4e s4v => ?_)
  have hW := hW ⟨s4a, s4b⟩ s4 s4e
  refine pq_l (pc' := 19) rfl rfl rfl rfl rfl ?_
  refine pq_gi (pc' := 22) rfl rfl rfl rfl rfl (fun r5 => ?_)
  refine pq_z_ne (pt := 36) (pc' := 25) rfl rfl rfl (fun c6 => ?_) (fun c6 => ?_)
  · have hW := hW.1 c6
    refine pq_l (pc' := 37) rfl rfl rfl rfl rfl ?_
    refine pq_gr (pc' := 40) (c := 581) (v := 581) rfl rfl rfl rfl rfl rfl s4v ?_
    refine pq_l (pc' := 41) rfl rfl rfl rfl rfl ?_
    refine pq_l (pc' := 42) rfl rfl rfl rfl rfl ?_
    refine pq_gj (pc' := 45) rfl rfl rfl rfl (fun r7 => ?_)
    refine pq_k (pc' := 48) (v := (1, 2000)) rfl rfl rfl (fun _ => rfl) ?_
    refine pq_lcmp (pc' := 49) rfl rfl r7 (⟨by decide, by decide⟩ : lR 2000) (fun z8 z8c => ?_)
    have J210 : ∀ v209 : Int, iR v209 → (((0 ≤ l1 ∧ l1 < gln 581) → ∀ s211, s211 = cpa s4 581 l1 v209 → (C_fillAt4_63 s211 Q))) → pq L ys d N rm_p_X4_fillAt (62, [], [(0, v209), (0, l1), (2, ((581 : Nat) : Int))], s4) (fun r : im_Re => r.1 = none ∧ (jI r.2 ∧ Q r.2)) := by
      intro v209 v209r hW
      refine pq_is (pc' := 63) rfl rfl (by decide) (by decide) s4v (fun s211a s211b s211 s211e s211v => ?_)
      have hW := hW ⟨s211a, s211b⟩ s211 s211e
      refine pq_w [] trivial ?_
      exact J63 N (by omega) s211 s211v hW
    refine pq_z_le (pt := 57) (pc' := 52) rfl rfl rfl (fun c9 => ?_) (fun c9 => ?_)
    · have c9 : (cgf s4 z2 3) ≤ 2000 := by omega
      refine pq_l (pc' := 58) rfl rfl rfl rfl rfl ?_
      refine pq_gj (pc' := 61) rfl rfl rfl rfl (fun r10 => ?_)
      refine pq_l2i (pc' := 62) rfl rfl ?_
      refine pq_w [] trivial ?_
      exact J210 (w32 (cgf s4 z2 3)) (w32_r _) (hW _ (by rw [if_pos c9]))
    · have c9 : ¬ ((cgf s4 z2 3) ≤ 2000) := by omega
      refine pq_k (pc' := 54) (v := (0, (-3))) rfl rfl rfl (fun _ => rfl) ?_
      refine pq_goto (pc' := 62) rfl rfl ?_
      refine pq_w [] trivial ?_
      exact J210 (-3) (⟨by decide, by decide⟩ : iR (-3)) (hW _ (by rw [if_neg (fun z => c9 z)]))
  · have hW := hW.2 c6
    refine pq_l (pc' := 26) rfl rfl rfl rfl rfl ?_
    refine pq_gr (pc' := 29) (c := 581) (v := 581) rfl rfl rfl rfl rfl rfl s4v ?_
    refine pq_l (pc' := 30) rfl rfl rfl rfl rfl ?_
    refine pq_k (pc' := 32) (v := (0, (-2))) rfl rfl rfl (fun _ => rfl) ?_
    refine pq_is (pc' := 33) rfl rfl (by decide) (by decide) s4v (fun s212a s212b s212 s212e s212v => ?_)
    have hW := hW ⟨s212a, s212b⟩ s212 s212e
    refine pq_goto (pc' := 63) rfl rfl ?_
    refine pq_w [] trivial ?_
    exact J63 N (by omega) s212 s212v hW
def C_descend4_145 (K40 : Int × Int × Int × Int × im_S → Prop) (l1 : Int) (l2 : Int) (l4 : Nat) (l5 : Nat) (l6 : Int) (l8 : Int) (l10 : Int) (l12 : Int) (s : im_S) (Q : im_S → Prop) : Prop := (K40 (l6, l8, l10, l12, s))
def C_descend4_40 (K40 : Int × Int × Int × Int × im_S → Prop) (l1 : Int) (l2 : Int) (l4 : Nat) (l5 : Nat) (l6 : Int) (l8 : Int) (l10 : Int) (l12 : Int) (s : im_S) (Q : im_S → Prop) : Prop := ((2000 < (w64 (l8 + l12)) → (Q s)) ∧ (¬ (2000 < (w64 (l8 + l12))) → (C_compareWith3 l4 l2 (w64 (l6 + l10)) (w64 (l8 + l12)) s (fun z5 s4 => ((z5 < 0 → (C_compareWith3 l5 l2 (w64 (l6 + l10)) (w64 (l8 + l12)) s4 (fun z8 s7 => ((0 < z8 → ((0 ≤ l1 ∧ l1 < gln 580) → ∀ s10, s10 = cpa s7 580 l1 (w64 ((w64 (l2 * (w64 (l8 + l12)))) + (w64 (l6 + l10)))) → ((0 ≤ l1 ∧ l1 < gln 581) → ∀ s11, s11 = cpa s10 581 l1 (w32 (w64 (l8 + l12))) → (Q s11)))) ∧ (¬ (0 < z8) → (C_descend4_145 K40 l1 l2 l4 l5 l6 l8 (w64 (l6 + l10)) (w64 (l8 + l12)) s7 Q)))))) ∧ (¬ (z5 < 0) → (C_descend4_145 K40 l1 l2 l4 l5 (w64 (l6 + l10)) (w64 (l8 + l12)) l10 l12 s4 Q)))))))
def C_descend4 (l1 : Int) (l2 : Int) (s : im_S) (Q : im_S → Prop) : Prop := (C_rootAt4 (w32 ((divI l1 2) - 1)) s (fun z13 s12 => (C_rootAt4 (divI l1 2) s12 (fun z15 s14 => ((0 ≤ l1 ∧ l1 < gln 581) → ∀ s16, s16 = cpa s14 581 l1 (-3) → (ploop (fun (K : Int × Int × Int × Int × im_S → Prop) (a : Int × Int × Int × Int × im_S) => C_descend4_40 K l1 l2 z13 z15 a.1 a.2.1 a.2.2.1 a.2.2.2.1 a.2.2.2.2 Q) (0, 1, 1, 1, s16)))))))
set_option maxRecDepth 16384 in
theorem c_descend4 (L : Nat) (ys : Nat → Int32) (d : Nat) (s : im_S) (hv : jI s) (l1 : Int) (l1r : iR l1) (l2 : Int) (l2r : lR l2) (Q : im_S → Prop) (hW : C_descend4 l1 l2 s Q) : pcV L ys d 149 [(2, ((1 : Nat) : Int)), (0, l1), (1, l2)] s (fun s9 => jI s9 ∧ Q s9) := by
  intro res hres
  refine pq_start (M := rm_p_X4_descend) (Q := (fun r : im_Re => r.1 = none ∧ (jI r.2 ∧ Q r.2))) om_X4_descend (fun d N => ?_) res hres
  refine pq_w [(0, (2, ((1 : Nat) : Int))), (1, (0, l1)), (2, (1, l2))] ⟨rfl, rfl, rfl, trivial⟩ ?_
  have J40 : ∀ (l1 : Int) (l1r : iR l1) (l2 : Int) (l2r : lR l2) (l4 : Nat) (l5 : Nat) (I40 : Int × Int × Int × Int × im_S → Prop) (hB40 : ∀ a : Int × Int × Int × Int × im_S, I40 a → C_descend4_40 I40 l1 l2 l4 l5 a.1 a.2.1 a.2.2.1 a.2.2.2.1 a.2.2.2.2 Q), ∀ N40 : Nat, N40 ≤ N → ∀ (l6 : Int) (l6r : lR l6) (l8 : Int) (l8r : lR l8) (l10 : Int) (l10r : lR l10) (l12 : Int) (l12r : lR l12) (s : im_S) (hv : jI s), I40 (l6, l8, l10, l12, s) → pq L ys d N40 rm_p_X4_descend (40, [(0, (2, ((1 : Nat) : Int))), (1, (0, l1)), (2, (1, l2)), (4, (2, ((l4 : Nat) : Int))), (5, (2, ((l5 : Nat) : Int))), (6, (1, l6)), (8, (1, l8)), (10, (1, l10)), (12, (1, l12))], [], s) (fun r : im_Re => r.1 = none ∧ (jI r.2 ∧ Q r.2)) := by
    intro l1 l1r l2 l2r l4 l5 I40 hB40 N40
    induction N40 using Nat.strongRecOn with
    | _ N40 ih40 =>
      intro hN40 l6 l6r l8 l8r l10 l10r l12 l12r s hv hI
      have hW : C_descend4_40 I40 l1 l2 l4 l5 l6 l8 l10 l12 s Q := hB40 (l6, l8, l10, l12, s) hI
      have J145 : ∀ N145 : Nat, N145 ≤ N40 → ∀ (l6 : Int) (l6r : lR l6) (l8 : Int) (l8r : lR l8) (l10 : Int) (l10r : lR l10) (l12 : Int) (l12r : lR l12) (s : im_S) (hv : jI s), C_descend4_145 I40 l1 l2 l4 l5 l6 l8 l10 l12 s Q → pq L ys d N145 rm_p_X4_descend (145, [(0, (2, ((1 : Nat) : Int))), (1, (0, l1)), (2, (1, l2)), (4, (2, ((l4 : Nat) : Int))), (5, (2, ((l5 : Nat) : Int))), (6, (1, l6)), (8, (1, l8)), (10, (1, l10)), (12, (1, l12))], [], s) (fun r : im_Re => r.1 = none ∧ (jI r.2 ∧ Q r.2)) := by
        intro N145 hN145 l6 l6r l8 l8r l10 l10r l12 l12r s hv hW
        unfold C_descend4_145 at hW
        refine pq_gotoT (pc' := 40) rfl rfl (fun m1 m1l => ?_)
        refine pq_w [(0, (2, ((1 : Nat) : Int))), (1, (0, l1)), (2, (1, l2)), (4, (2, ((l4 : Nat) : Int))), (5, (2, ((l5 : Nat) : Int))), (6, (1, l6)), (8, (1, l8)), (10, (1, l10)), (12, (1, l12))] ⟨rfl, rfl, rfl, rfl, rfl, rfl, rfl, rfl, rfl, trivial⟩ ?_
        exact ih40 m1 (by omega) (by omega) l6 l6r l8 l8r l10 l10r l12 l12r s hv hW
      unfold C_descend4_40 at hW
      refine pq_l (pc' := 42) rfl rfl rfl rfl rfl ?_
      refine pq_l (pc' := 44) rfl rfl rfl rfl rfl ?_
      refine pq_ladd (pc' := 45) rfl rfl ?_
      refine pq_k (pc' := 48) (v := (1, 2000)) rfl rfl rfl (fun _ => rfl) ?_
      refine pq_lcmp (pc' := 49) rfl rfl (w64_r _) (⟨by decide, by decide⟩ : lR 2000) (fun z2 z2c => ?_)
      refine pq_z_gt (pt := 148) (pc' := 52) rfl rfl rfl (fun c3 => ?_) (fun c3 => ?_)
      · have c3 : 2000 < (w64 (l8 + l12)) := by omega
        have hW := hW.1 c3
        exact pq_vret rfl ⟨rfl, hv, hW⟩
      · have c3 : ¬ (2000 < (w64 (l8 + l12))) := by omega
        have hW := hW.2 c3
        refine pq_l (pc' := 54) rfl rfl rfl rfl rfl ?_
        refine pq_l (pc' := 56) rfl rfl rfl rfl rfl ?_
        refine pq_ladd (pc' := 57) rfl rfl ?_
        refine pq_s2 (pc' := 59) rfl rfl rfl rfl rfl ?_
        refine pq_l (pc' := 61) rfl rfl rfl rfl rfl ?_
        refine pq_l (pc' := 63) rfl rfl rfl rfl rfl ?_
        refine pq_ladd (pc' := 64) rfl rfl ?_
        refine pq_s2 (pc' := 66) rfl rfl rfl rfl rfl ?_
        refine pq_l (pc' := 67) rfl rfl rfl rfl rfl ?_
        refine pq_gr (pc' := 70) (c := 83) (v := 83) rfl rfl rfl rfl rfl rfl hv ?_
        refine pq_l (pc' := 72) rfl rfl rfl rfl rfl ?_
        refine pq_l (pc' := 73) rfl rfl rfl rfl rfl ?_
        refine pq_l (pc' := 75) rfl rfl rfl rfl rfl ?_
        refine pq_l (pc' := 77) rfl rfl rfl rfl rfl ?_
        refine pq_cVI (pc' := 80) rfl rfl rfl rfl rfl (c_compareWith3 L ys d s hv l4 l2 l2r (w64 (l6 + l10)) (w64_r _) (w64 (l8 + l12)) (w64_r _) _ hW) (fun z5 s4 hr => ?_)
        obtain ⟨s4v, z5r, hW⟩ := hr
        refine pq_z_lt (pt := 94) (pc' := 83) rfl rfl rfl (fun c6 => ?_) (fun c6 => ?_)
        · have hW := hW.1 c6
          refine pq_l (pc' := 95) rfl rfl rfl rfl rfl ?_
          refine pq_gr (pc' := 98) (c := 83) (v := 83) rfl rfl rfl rfl rfl rfl s4v ?_
          refine pq_l (pc' := 100) rfl rfl rfl rfl rfl ?_
          refine pq_l (pc' := 101) rfl rfl rfl rfl rfl ?_
          refine pq_l (pc' := 103) rfl rfl rfl rfl rfl ?_
          refine pq_l (pc' := 105) rfl rfl rfl rfl rfl ?_
          refine pq_cVI (pc' := 108) rfl rfl rfl rfl rfl (c_compareWith3 L ys d s4 s4v l5 l2 l2r (w64 (l6 + l10)) (w64_r _) (w64 (l8 + l12)) (w64_r _) _ hW) (fun z8 s7 hr => ?_)
          obtain ⟨s7v, z8r, hW⟩ := hr
          refine pq_z_gt (pt := 122) (pc' := 111) rfl rfl rfl (fun c9 => ?_) (fun c9 => ?_)
          · have hW := hW.1 c9
            refine pq_l (pc' := 123) rfl rfl rfl rfl rfl ?_
            refine pq_gr (pc' := 126) (c := 580) (v := 580) rfl rfl rfl rfl rfl rfl s7v ?_
            refine pq_l (pc' := 127) rfl rfl rfl rfl rfl ?_
            refine pq_l (pc' := 128) rfl rfl rfl rfl rfl ?_
            refine pq_l (pc' := 130) rfl rfl rfl rfl rfl ?_
            refine pq_lmul (pc' := 131) rfl rfl ?_
            refine pq_l (pc' := 133) rfl rfl rfl rfl rfl ?_
            refine pq_ladd (pc' := 134) rfl rfl ?_
            refine pq_ls (pc' := 135) rfl rfl s7v (fun s10a s10b s10 s10e s10v => ?_)
            have hW := hW ⟨s10a, s10b⟩ s10 s10e
            refine pq_l (pc' := 136) rfl rfl rfl rfl rfl ?_
            refine pq_gr (pc' := 139) (c := 581) (v := 581) rfl rfl rfl rfl rfl rfl s10v ?_
            refine pq_l (pc' := 140) rfl rfl rfl rfl rfl ?_
            refine pq_l (pc' := 142) rfl rfl rfl rfl rfl ?_
            refine pq_l2i (pc' := 143) rfl rfl ?_
            refine pq_is (pc' := 144) rfl rfl (by decide) (by decide) s10v (fun s11a s11b s11 s11e s11v => ?_)
            have hW := hW ⟨s11a, s11b⟩ s11 s11e
            exact pq_vret rfl ⟨rfl, s11v, hW⟩
          · have hW := hW.2 c9
            refine pq_l (pc' := 113) rfl rfl rfl rfl rfl ?_
            refine pq_s2 (pc' := 115) rfl rfl rfl rfl rfl ?_
            refine pq_l (pc' := 117) rfl rfl rfl rfl rfl ?_
            refine pq_s2 (pc' := 119) rfl rfl rfl rfl rfl ?_
            refine pq_goto (pc' := 145) rfl rfl ?_
            refine pq_w [(0, (2, ((1 : Nat) : Int))), (1, (0, l1)), (2, (1, l2)), (4, (2, ((l4 : Nat) : Int))), (5, (2, ((l5 : Nat) : Int))), (6, (1, l6)), (8, (1, l8)), (10, (1, (w64 (l6 + l10)))), (12, (1, (w64 (l8 + l12))))] ⟨rfl, rfl, rfl, rfl, rfl, rfl, rfl, rfl, rfl, trivial⟩ ?_
            exact J145 N40 (by omega) l6 l6r l8 l8r (w64 (l6 + l10)) (w64_r _) (w64 (l8 + l12)) (w64_r _) s7 s7v hW
        · have hW := hW.2 c6
          refine pq_l (pc' := 85) rfl rfl rfl rfl rfl ?_
          refine pq_s2 (pc' := 87) rfl rfl rfl rfl rfl ?_
          refine pq_l (pc' := 89) rfl rfl rfl rfl rfl ?_
          refine pq_s2 (pc' := 91) rfl rfl rfl rfl rfl ?_
          refine pq_goto (pc' := 145) rfl rfl ?_
          refine pq_w [(0, (2, ((1 : Nat) : Int))), (1, (0, l1)), (2, (1, l2)), (4, (2, ((l4 : Nat) : Int))), (5, (2, ((l5 : Nat) : Int))), (6, (1, (w64 (l6 + l10)))), (8, (1, (w64 (l8 + l12)))), (10, (1, l10)), (12, (1, l12))] ⟨rfl, rfl, rfl, rfl, rfl, rfl, rfl, rfl, rfl, trivial⟩ ?_
          exact J145 N40 (by omega) (w64 (l6 + l10)) (w64_r _) (w64 (l8 + l12)) (w64_r _) l10 l10r l12 l12r s4 s4v hW
  unfold C_descend4 at hW
  refine pq_l (pc' := 1) rfl rfl rfl rfl rfl ?_
  refine pq_l (pc' := 2) rfl rfl rfl rfl rfl ?_
  refine pq_k (pc' := 3) (v := (0, 2)) rfl rfl rfl (fun _ => rfl) ?_
  refine pq_idiv (pc' := 4) rfl rfl ?_
  refine pq_k (pc' := 5) (v := (0, 1)) rfl rfl rfl (fun _ => rfl) ?_
  refine pq_sub (pc' := 6) rfl rfl ?_
  refine pq_cVR (pc' := 9) rfl rfl rfl rfl rfl (c_rootAt4 L ys d s hv (w32 ((divI l1 2) - 1)) (w32_r _) _ hW) (fun z13 s12 hr => ?_)
  obtain ⟨s12v, z13n, hW⟩ := hr
  refine pq_s (pc' := 11) rfl rfl rfl rfl rfl ?_
  refine pq_l (pc' := 12) rfl rfl rfl rfl rfl ?_
  refine pq_l (pc' := 13) rfl rfl rfl rfl rfl ?_
  refine pq_k (pc' := 14) (v := (0, 2)) rfl rfl rfl (fun _ => rfl) ?_
  refine pq_idiv (pc' := 15) rfl rfl ?_
  refine pq_cVR (pc' := 18) rfl rfl rfl rfl rfl (c_rootAt4 L ys d s12 s12v (divI l1 2) (divI_r _ _) _ hW) (fun z15 s14 hr => ?_)
  obtain ⟨s14v, z15n, hW⟩ := hr
  refine pq_s (pc' := 20) rfl rfl rfl rfl rfl ?_
  refine pq_k (pc' := 21) (v := (1, 0)) rfl rfl rfl (fun _ => rfl) ?_
  refine pq_s2 (pc' := 23) rfl rfl rfl rfl rfl ?_
  refine pq_k (pc' := 24) (v := (1, 1)) rfl rfl rfl (fun _ => rfl) ?_
  refine pq_s2 (pc' := 26) rfl rfl rfl rfl rfl ?_
  refine pq_k (pc' := 27) (v := (1, 1)) rfl rfl rfl (fun _ => rfl) ?_
  refine pq_s2 (pc' := 29) rfl rfl rfl rfl rfl ?_
  refine pq_k (pc' := 30) (v := (1, 1)) rfl rfl rfl (fun _ => rfl) ?_
  refine pq_s2 (pc' := 32) rfl rfl rfl rfl rfl ?_
  refine pq_l (pc' := 33) rfl rfl rfl rfl rfl ?_
  refine pq_gr (pc' := 36) (c := 581) (v := 581) rfl rfl rfl rfl rfl rfl s14v ?_
  refine pq_l (pc' := 37) rfl rfl rfl rfl rfl ?_
  refine pq_k (pc' := 39) (v := (0, (-3))) rfl rfl rfl (fun _ => rfl) ?_
  refine pq_is (pc' := 40) rfl rfl (by decide) (by decide) s14v (fun s16a s16b s16 s16e s16v => ?_)
  have hW := hW ⟨s16a, s16b⟩ s16 s16e
  refine pq_w [(0, (2, ((1 : Nat) : Int))), (1, (0, l1)), (2, (1, l2)), (4, (2, ((z13 : Nat) : Int))), (5, (2, ((z15 : Nat) : Int))), (6, (1, 0)), (8, (1, 1)), (10, (1, 1)), (12, (1, 1))] ⟨rfl, rfl, rfl, rfl, rfl, rfl, rfl, rfl, rfl, trivial⟩ ?_
  obtain ⟨I9, hI9, hB9⟩ := hW
  exact J40 l1 l1r l2 l2r z13 z15 I9 hB9 N (by omega) 0 (⟨by decide, by decide⟩ : lR 0) 1 (⟨by decide, by decide⟩ : lR 1) 1 (⟨by decide, by decide⟩ : lR 1) 1 (⟨by decide, by decide⟩ : lR 1) s16 s16v hI9
def C_fillBetween4_143 (s : im_S) (Q : im_S → Prop) : Prop := (Q s)
def C_fillBetween4_94 (l1 : Int) (l2 : Int) (l4 : Int) (s : im_S) (Q : im_S → Prop) : Prop := ((0 ≤ l1 ∧ l1 < gln 580) → ∀ s1, s1 = cpa s 580 l1 l2 → ((0 ≤ l1 ∧ l1 < gln 581) → ∀ s2, s2 = cpa s1 581 l1 1 → ((l4 = l1 → (C_fillBetween4_143 s2 Q)) ∧ (¬ (l4 = l1) → (C_locate4 l2 0 1 s2 (fun z5 s4 => ((z5 = l1 → (C_fillBetween4_143 s4 Q)) ∧ (¬ (z5 = l1) → (∀ v207 : Int, v207 = (if l1 ≤ l4 then l2 else (w64 (l2 - 1))) → (C_descend4 l1 v207 s4 (fun s209 => (C_fillBetween4_143 s209 Q))))))))))))
def C_fillBetween4 (l1 : Int) (s : im_S) (Q : im_S → Prop) : Prop := (caI s 581 l1 → (((cga s 581 l1) = 0 → (C_locate4 0 0 1 s (fun z214 s213 => ((l1 ≤ z214 → ((z214 ≤ l1 → (C_fillBetween4_94 l1 0 z214 s213 Q)) ∧ (¬ (z214 ≤ l1) → (C_rootAt4 (divI l1 2) s213 (fun z218 s217 => (∀ v420 : Int, v420 = (if (cgf s217 z218 1) = 0 then (cgf s217 z218 4) else (if ¬ ((cgf s217 z218 5) = 0) then (cgf s217 z218 4) else (w64 ((cgf s217 z218 4) - 1)))) → (C_fillBetween4_94 l1 v420 z214 s217 Q))))))) ∧ (¬ (l1 ≤ z214) → (C_rootAt4 (w32 ((divI l1 2) - 1)) s213 (fun z423 s422 => (C_fillBetween4_94 l1 (w64 ((cgf s422 z423 4) + 1)) z214 s422 Q)))))))) ∧ (¬ ((cga s 581 l1) = 0) → (Q s))))
set_option maxRecDepth 16384 in
theorem c_fillBetween4 (L : Nat) (ys : Nat → Int32) (d : Nat) (s : im_S) (hv : jI s) (l1 : Int) (l1r : iR l1) (Q : im_S → Prop) (hW : C_fillBetween4 l1 s Q) : pcV L ys d 151 [(2, ((1 : Nat) : Int)), (0, l1)] s (fun s9 => jI s9 ∧ Q s9) := by
  intro res hres
  refine pq_start (M := rm_p_X4_fillBetween) (Q := (fun r : im_Re => r.1 = none ∧ (jI r.2 ∧ Q r.2))) om_X4_fillBetween (fun d N => ?_) res hres
  refine pq_w [(0, (2, ((1 : Nat) : Int))), (1, (0, l1))] ⟨rfl, rfl, trivial⟩ ?_
  have J143 : ∀ N143 : Nat, N143 ≤ N → ∀ (s : im_S) (hv : jI s), C_fillBetween4_143 s Q → pq L ys d N143 rm_p_X4_fillBetween (143, [], [], s) (fun r : im_Re => r.1 = none ∧ (jI r.2 ∧ Q r.2)) := by
    intro N143 hN143 s hv hW
    unfold C_fillBetween4_143 at hW
    exact pq_vret rfl ⟨rfl, hv, hW⟩
  have J94 : ∀ N94 : Nat, N94 ≤ N → ∀ (l1 : Int) (l1r : iR l1) (l2 : Int) (l2r : lR l2) (l4 : Int) (l4r : iR l4) (s : im_S) (hv : jI s), C_fillBetween4_94 l1 l2 l4 s Q → pq L ys d N94 rm_p_X4_fillBetween (94, [(0, (2, ((1 : Nat) : Int))), (1, (0, l1)), (2, (1, l2)), (4, (0, l4))], [], s) (fun r : im_Re => r.1 = none ∧ (jI r.2 ∧ Q r.2)) := by
    intro N94 hN94 l1 l1r l2 l2r l4 l4r s hv hW
    unfold C_fillBetween4_94 at hW
    refine pq_l (pc' := 95) rfl rfl rfl rfl rfl ?_
    refine pq_gr (pc' := 98) (c := 580) (v := 580) rfl rfl rfl rfl rfl rfl hv ?_
    refine pq_l (pc' := 99) rfl rfl rfl rfl rfl ?_
    refine pq_l (pc' := 100) rfl rfl rfl rfl rfl ?_
    refine pq_ls (pc' := 101) rfl rfl hv (fun s1a s1b s1 s1e s1v => ?_)
    have hW := hW ⟨s1a, s1b⟩ s1 s1e
    refine pq_l (pc' := 102) rfl rfl rfl rfl rfl ?_
    refine pq_gr (pc' := 105) (c := 581) (v := 581) rfl rfl rfl rfl rfl rfl s1v ?_
    refine pq_l (pc' := 106) rfl rfl rfl rfl rfl ?_
    refine pq_k (pc' := 107) (v := (0, 1)) rfl rfl rfl (fun _ => rfl) ?_
    refine pq_is (pc' := 108) rfl rfl (by decide) (by decide) s1v (fun s2a s2b s2 s2e s2v => ?_)
    have hW := hW ⟨s2a, s2b⟩ s2 s2e
    refine pq_l (pc' := 110) rfl rfl rfl rfl rfl ?_
    refine pq_l (pc' := 111) rfl rfl rfl rfl rfl ?_
    refine pq_c_eq (pt := 143) (pc' := 114) rfl rfl rfl (fun c3 => ?_) (fun c3 => ?_)
    · have hW := hW.1 c3
      refine pq_w [] trivial ?_
      exact J143 N94 (by omega) s2 s2v hW
    · have hW := hW.2 c3
      refine pq_l (pc' := 115) rfl rfl rfl rfl rfl ?_
      refine pq_l (pc' := 116) rfl rfl rfl rfl rfl ?_
      refine pq_k (pc' := 117) (v := (1, 0)) rfl rfl rfl (fun _ => rfl) ?_
      refine pq_k (pc' := 118) (v := (1, 1)) rfl rfl rfl (fun _ => rfl) ?_
      refine pq_cVI (pc' := 121) rfl rfl rfl rfl rfl (c_locate4 L ys d s2 s2v l2 l2r 0 (⟨by decide, by decide⟩ : lR 0) 1 (⟨by decide, by decide⟩ : lR 1) _ hW) (fun z5 s4 hr => ?_)
      obtain ⟨s4v, z5r, hW⟩ := hr
      refine pq_l (pc' := 122) rfl rfl rfl rfl rfl ?_
      refine pq_c_eq (pt := 143) (pc' := 125) rfl rfl rfl (fun c6 => ?_) (fun c6 => ?_)
      · have hW := hW.1 c6
        refine pq_w [] trivial ?_
        exact J143 N94 (by omega) s4 s4v hW
      · have hW := hW.2 c6
        refine pq_l (pc' := 126) rfl rfl rfl rfl rfl ?_
        refine pq_l (pc' := 127) rfl rfl rfl rfl rfl ?_
        refine pq_l (pc' := 129) rfl rfl rfl rfl rfl ?_
        refine pq_l (pc' := 130) rfl rfl rfl rfl rfl ?_
        have J208 : ∀ v207 : Int, lR v207 → ((C_descend4 l1 v207 s4 (fun s209 => (C_fillBetween4_143 s209 Q)))) → pq L ys d N94 rm_p_X4_fillBetween (140, [], [(1, v207), (0, l1), (2, ((1 : Nat) : Int))], s4) (fun r : im_Re => r.1 = none ∧ (jI r.2 ∧ Q r.2)) := by
          intro v207 v207r hW
          refine pq_cVV (pc' := 143) rfl rfl rfl rfl rfl (c_descend4 L ys d s4 s4v l1 l1r v207 v207r _ hW) (fun s209 hr => ?_)
          obtain ⟨s209v, hW⟩ := hr
          refine pq_w [] trivial ?_
          exact J143 N94 (by omega) s209 s209v hW
        refine pq_c_ge (pt := 139) (pc' := 133) rfl rfl rfl (fun c7 => ?_) (fun c7 => ?_)
        · refine pq_l (pc' := 140) rfl rfl rfl rfl rfl ?_
          refine pq_w [] trivial ?_
          exact J208 l2 l2r (hW _ (by rw [if_pos c7]))
        · refine pq_l (pc' := 134) rfl rfl rfl rfl rfl ?_
          refine pq_k (pc' := 135) (v := (1, 1)) rfl rfl rfl (fun _ => rfl) ?_
          refine pq_lsub (pc' := 136) rfl rfl ?_
          refine pq_goto (pc' := 140) rfl rfl ?_
          refine pq_w [] trivial ?_
          exact J208 (w64 (l2 - 1)) (w64_r _) (hW _ (by rw [if_neg (fun z => c7 z)]))
  unfold C_fillBetween4 at hW
  refine pq_l (pc' := 1) rfl rfl rfl rfl rfl ?_
  refine pq_gr (pc' := 4) (c := 581) (v := 581) rfl rfl rfl rfl rfl rfl hv ?_
  refine pq_l (pc' := 5) rfl rfl rfl rfl rfl ?_
  refine pq_ia (pc' := 6) rfl rfl (fun r211a r211b r211 => ?_)
  have hW := hW ⟨⟨r211a, r211b⟩, r211⟩
  refine pq_z_eq (pt := 10) (pc' := 9) rfl rfl rfl (fun c212 => ?_) (fun c212 => ?_)
  · have hW := hW.1 c212
    refine pq_k (pc' := 11) (v := (1, 0)) rfl rfl rfl (fun _ => rfl) ?_
    refine pq_s2 (pc' := 12) rfl rfl rfl rfl rfl ?_
    refine pq_l (pc' := 13) rfl rfl rfl rfl rfl ?_
    refine pq_k (pc' := 14) (v := (1, 0)) rfl rfl rfl (fun _ => rfl) ?_
    refine pq_k (pc' := 15) (v := (1, 0)) rfl rfl rfl (fun _ => rfl) ?_
    refine pq_k (pc' := 16) (v := (1, 1)) rfl rfl rfl (fun _ => rfl) ?_
    refine pq_cVI (pc' := 19) rfl rfl rfl rfl rfl (c_locate4 L ys d s hv 0 (⟨by decide, by decide⟩ : lR 0) 0 (⟨by decide, by decide⟩ : lR 0) 1 (⟨by decide, by decide⟩ : lR 1) _ hW) (fun z214 s213 hr => ?_)
    obtain ⟨s213v, z214r, hW⟩ := hr
    refine pq_s (pc' := 21) rfl rfl rfl rfl rfl ?_
    refine pq_l (pc' := 23) rfl rfl rfl rfl rfl ?_
    refine pq_l (pc' := 24) rfl rfl rfl rfl rfl ?_
    refine pq_c_ge (pt := 45) (pc' := 27) rfl rfl rfl (fun c215 => ?_) (fun c215 => ?_)
    · have hW := hW.1 c215
      refine pq_l (pc' := 47) rfl rfl rfl rfl rfl ?_
      refine pq_l (pc' := 48) rfl rfl rfl rfl rfl ?_
      refine pq_c_le (pt := 94) (pc' := 51) rfl rfl rfl (fun c216 => ?_) (fun c216 => ?_)
      · have hW := hW.1 c216
        refine pq_w [(0, (2, ((1 : Nat) : Int))), (1, (0, l1)), (2, (1, 0)), (4, (0, z214))] ⟨rfl, rfl, rfl, rfl, trivial⟩ ?_
        exact J94 N (by omega) l1 l1r 0 (⟨by decide, by decide⟩ : lR 0) z214 z214r s213 s213v hW
      · have hW := hW.2 c216
        refine pq_l (pc' := 52) rfl rfl rfl rfl rfl ?_
        refine pq_l (pc' := 53) rfl rfl rfl rfl rfl ?_
        refine pq_k (pc' := 54) (v := (0, 2)) rfl rfl rfl (fun _ => rfl) ?_
        refine pq_idiv (pc' := 55) rfl rfl ?_
        refine pq_cVR (pc' := 58) rfl rfl rfl rfl rfl (c_rootAt4 L ys d s213 s213v (divI l1 2) (divI_r _ _) _ hW) (fun z218 s217 hr => ?_)
        obtain ⟨s217v, z218n, hW⟩ := hr
        refine pq_s (pc' := 60) rfl rfl rfl rfl rfl ?_
        refine pq_l (pc' := 62) rfl rfl rfl rfl rfl ?_
        refine pq_gi (pc' := 65) rfl rfl rfl rfl rfl (fun r219 => ?_)
        have J421 : ∀ v420 : Int, lR v420 → ((C_fillBetween4_94 l1 v420 z214 s217 Q)) → pq L ys d N rm_p_X4_fillBetween (93, [(0, (2, ((1 : Nat) : Int))), (1, (0, l1)), (4, (0, z214))], [(1, v420)], s217) (fun r : im_Re => r.1 = none ∧ (jI r.2 ∧ Q r.2)) := by
          intro v420 v420r hW
          refine pq_s2 (pc' := 94) rfl rfl rfl rfl rfl ?_
          refine pq_w [(0, (2, ((1 : Nat) : Int))), (1, (0, l1)), (2, (1, v420)), (4, (0, z214))] ⟨rfl, rfl, rfl, rfl, trivial⟩ ?_
          exact J94 N (by omega) l1 l1r v420 v420r z214 z214r s217 s217v hW
        refine pq_z_eq (pt := 88) (pc' := 68) rfl rfl rfl (fun c220 => ?_) (fun c220 => ?_)
        · refine pq_l (pc' := 90) rfl rfl rfl rfl rfl ?_
          refine pq_gj (pc' := 93) rfl rfl rfl rfl (fun r221 => ?_)
          refine pq_w [(0, (2, ((1 : Nat) : Int))), (1, (0, l1)), (4, (0, z214))] ⟨rfl, rfl, rfl, trivial⟩ ?_
          exact J421 (cgf s217 z218 4) r221 (hW _ (by rw [if_pos c220]))
        · refine pq_l (pc' := 70) rfl rfl rfl rfl rfl ?_
          refine pq_gj (pc' := 73) rfl rfl rfl rfl (fun r222 => ?_)
          refine pq_k (pc' := 74) (v := (1, 0)) rfl rfl rfl (fun _ => rfl) ?_
          refine pq_lcmp (pc' := 75) rfl rfl r222 (⟨by decide, by decide⟩ : lR 0) (fun z223 z223c => ?_)
          refine pq_z_ne (pt := 88) (pc' := 78) rfl rfl rfl (fun c224 => ?_) (fun c224 => ?_)
          · have c224 : ¬ ((cgf s217 z218 5) = 0) := by omega
            refine pq_l (pc' := 90) rfl rfl rfl rfl rfl ?_
            refine pq_gj (pc' := 93) rfl rfl rfl rfl (fun r225 => ?_)
            refine pq_w [(0, (2, ((1 : Nat) : Int))), (1, (0, l1)), (4, (0, z214))] ⟨rfl, rfl, rfl, trivial⟩ ?_
            exact J421 (cgf s217 z218 4) r225 (hW _ (by rw [if_neg (fun z => c220 z), if_pos c224]))
          · have c224 : (cgf s217 z218 5) = 0 := by omega
            refine pq_l (pc' := 80) rfl rfl rfl rfl rfl ?_
            refine pq_gj (pc' := 83) rfl rfl rfl rfl (fun r226 => ?_)
            refine pq_k (pc' := 84) (v := (1, 1)) rfl rfl rfl (fun _ => rfl) ?_
            refine pq_lsub (pc' := 85) rfl rfl ?_
            refine pq_goto (pc' := 93) rfl rfl ?_
            refine pq_w [(0, (2, ((1 : Nat) : Int))), (1, (0, l1)), (4, (0, z214))] ⟨rfl, rfl, rfl, trivial⟩ ?_
            exact J421 (w64 ((cgf s217 z218 4) - 1)) (w64_r _) (hW _ (by rw [if_neg (fun z => c220 z), if_neg (by omega)]))
    · have hW := hW.2 c215
      refine pq_l (pc' := 28) rfl rfl rfl rfl rfl ?_
      refine pq_l (pc' := 29) rfl rfl rfl rfl rfl ?_
      refine pq_k (pc' := 30) (v := (0, 2)) rfl rfl rfl (fun _ => rfl) ?_
      refine pq_idiv (pc' := 31) rfl rfl ?_
      refine pq_k (pc' := 32) (v := (0, 1)) rfl rfl rfl (fun _ => rfl) ?_
      refine pq_sub (pc' := 33) rfl rfl ?_
      refine pq_cVR (pc' := 36) rfl rfl rfl rfl rfl (c_rootAt4 L ys d s213 s213v (w32 ((divI l1 2) - 1)) (w32_r _) _ hW) (fun z423 s422 hr => ?_)
      obtain ⟨s422v, z423n, hW⟩ := hr
      refine pq_gj (pc' := 39) rfl rfl rfl rfl (fun r424 => ?_)
      refine pq_k (pc' := 40) (v := (1, 1)) rfl rfl rfl (fun _ => rfl) ?_
      refine pq_ladd (pc' := 41) rfl rfl ?_
      refine pq_s2 (pc' := 42) rfl rfl rfl rfl rfl ?_
      refine pq_goto (pc' := 94) rfl rfl ?_
      refine pq_w [(0, (2, ((1 : Nat) : Int))), (1, (0, l1)), (2, (1, (w64 ((cgf s422 z423 4) + 1)))), (4, (0, z214))] ⟨rfl, rfl, rfl, rfl, trivial⟩ ?_
      exact J94 N (by omega) l1 l1r (w64 ((cgf s422 z423 4) + 1)) (w64_r _) z214 z214r s422 s422v hW
  · have hW := hW.2 c212
    exact pq_vret rfl ⟨rfl, hv, hW⟩
def C_fail7_17 (s : im_S) (Q : im_S → Prop) : Prop := (∀ s1, s1 = cpf s 2 3 1 → (Q s1))
def C_fail7 (l1 : Int) (l2 : Int) (s : im_S) (Q : im_S → Prop) : Prop := ((¬ ((cgf s 2 4) = 0) → (C_fail7_17 s Q)) ∧ ((cgf s 2 4) = 0 → (∀ s4, s4 = cpf s 2 4 l1 → (∀ s5, s5 = cpf s4 2 5 l2 → (C_fail7_17 s5 Q)))))
set_option maxRecDepth 16384 in
theorem c_fail7 (L : Nat) (ys : Nat → Int32) (d : Nat) (s : im_S) (hv : jI s) (l1 : Int) (l1r : iR l1) (l2 : Int) (l2r : iR l2) (Q : im_S → Prop) (hW : C_fail7 l1 l2 s Q) : pcV L ys d 183 [(2, ((2 : Nat) : Int)), (0, l1), (0, l2)] s (fun s9 => jI s9 ∧ Q s9) := by
  intro res hres
  refine pq_start (M := rm_p_X7_fail) (Q := (fun r : im_Re => r.1 = none ∧ (jI r.2 ∧ Q r.2))) om_X7_fail (fun d N => ?_) res hres
  refine pq_w [(0, (2, ((2 : Nat) : Int))), (1, (0, l1)), (2, (0, l2))] ⟨rfl, rfl, rfl, trivial⟩ ?_
  have J17 : ∀ N17 : Nat, N17 ≤ N → ∀ (s : im_S) (hv : jI s), C_fail7_17 s Q → pq L ys d N17 rm_p_X7_fail (17, [(0, (2, ((2 : Nat) : Int)))], [], s) (fun r : im_Re => r.1 = none ∧ (jI r.2 ∧ Q r.2)) := by
    intro N17 hN17 s hv hW
    unfold C_fail7_17 at hW
    refine pq_l (pc' := 18) rfl rfl rfl rfl rfl ?_
    refine pq_k (pc' := 19) (v := (0, 1)) rfl rfl rfl (fun _ => rfl) ?_
    refine pq_pX (pc' := 22) rfl rfl rfl rfl (fun e => absurd e (by decide)) (fun e => absurd e (by decide)) hv (fun s1 s1e s1v => ?_)
    have hW := hW s1 s1e
    exact pq_vret rfl ⟨rfl, s1v, hW⟩
  unfold C_fail7 at hW
  refine pq_l (pc' := 1) rfl rfl rfl rfl rfl ?_
  refine pq_gi (pc' := 4) rfl rfl rfl rfl rfl (fun r2 => ?_)
  refine pq_z_ne (pt := 17) (pc' := 7) rfl rfl rfl (fun c3 => ?_) (fun c3 => ?_)
  · have hW := hW.1 c3
    refine pq_w [(0, (2, ((2 : Nat) : Int)))] ⟨rfl, trivial⟩ ?_
    exact J17 N (by omega) s hv hW
  · have hW := hW.2 c3
    refine pq_l (pc' := 8) rfl rfl rfl rfl rfl ?_
    refine pq_l (pc' := 9) rfl rfl rfl rfl rfl ?_
    refine pq_pX (pc' := 12) rfl rfl rfl rfl (fun e => absurd e (by decide)) (fun e => absurd e (by decide)) hv (fun s4 s4e s4v => ?_)
    have hW := hW s4 s4e
    refine pq_l (pc' := 13) rfl rfl rfl rfl rfl ?_
    refine pq_l (pc' := 14) rfl rfl rfl rfl rfl ?_
    refine pq_pX (pc' := 17) rfl rfl rfl rfl (fun e => absurd e (by decide)) (fun e => absurd e (by decide)) s4v (fun s5 s5e s5v => ?_)
    have hW := hW s5 s5e
    refine pq_w [(0, (2, ((2 : Nat) : Int)))] ⟨rfl, trivial⟩ ?_
    exact J17 N (by omega) s5 s5v hW
def C_accept7_10 (K10 : Int × im_S → Prop) (l1 : Nat) (l2 : Int) (l3 : Int) (s : im_S) (Q : im_S → Prop) : Prop := ((8 < l3 → (C_measure6 l1 s (fun s2 => (Q s2)))) ∧ (¬ (8 < l3) → (caJ s 59 l3 → (C_J9_abs_067f4 (cga s 59 l3) s (fun z6 s5 => ((z6 ≤ 1000000000 → (caJ s5 59 l3 → ((0 ≤ l3 ∧ l3 < gln (l1 + 1)) → ∀ s10, s10 = cpa s5 (l1 + 1) l3 (cga s5 59 l3) → (K10 ((w32 (l3 + 1)), s10))))) ∧ (¬ (z6 ≤ 1000000000) → (C_fail7 3 l2 s5 (fun s12 => (Q s12))))))))))
def C_accept7 (l1 : Nat) (l2 : Int) (s : im_S) (Q : im_S → Prop) : Prop := (((cgf s 2 4) = 0 → (ploop (fun (K : Int × im_S → Prop) (a : Int × im_S) => C_accept7_10 K l1 l2 a.1 a.2 Q) (0, s))) ∧ (¬ ((cgf s 2 4) = 0) → (Q s)))
set_option maxRecDepth 16384 in
theorem c_accept7 (L : Nat) (ys : Nat → Int32) (d : Nat) (s : im_S) (hv : jI s) (l1 : Nat) (l2 : Int) (l2r : iR l2) (Q : im_S → Prop) (hW : C_accept7 l1 l2 s Q) : pcV L ys d 179 [(2, ((2 : Nat) : Int)), (2, ((l1 : Nat) : Int)), (0, l2)] s (fun s9 => jI s9 ∧ Q s9) := by
  intro res hres
  refine pq_start (M := rm_p_X7_accept) (Q := (fun r : im_Re => r.1 = none ∧ (jI r.2 ∧ Q r.2))) om_X7_accept (fun d N => ?_) res hres
  refine pq_w [(0, (2, ((2 : Nat) : Int))), (1, (2, ((l1 : Nat) : Int))), (2, (0, l2))] ⟨rfl, rfl, rfl, trivial⟩ ?_
  have J10 : ∀ (l1 : Nat) (l2 : Int) (l2r : iR l2) (I10 : Int × im_S → Prop) (hB10 : ∀ a : Int × im_S, I10 a → C_accept7_10 I10 l1 l2 a.1 a.2 Q), ∀ N10 : Nat, N10 ≤ N → ∀ (l3 : Int) (l3r : iR l3) (s : im_S) (hv : jI s), I10 (l3, s) → pq L ys d N10 rm_p_X7_accept (10, [(0, (2, ((2 : Nat) : Int))), (1, (2, ((l1 : Nat) : Int))), (2, (0, l2)), (3, (0, l3))], [], s) (fun r : im_Re => r.1 = none ∧ (jI r.2 ∧ Q r.2)) := by
    intro l1 l2 l2r I10 hB10 N10
    induction N10 using Nat.strongRecOn with
    | _ N10 ih10 =>
      intro hN10 l3 l3r s hv hI
      have hW : C_accept7_10 I10 l1 l2 l3 s Q := hB10 (l3, s) hI
      unfold C_accept7_10 at hW
      refine pq_l (pc' := 11) rfl rfl rfl rfl rfl ?_
      refine pq_k (pc' := 13) (v := (0, 8)) rfl rfl rfl (fun _ => rfl) ?_
      refine pq_c_gt (pt := 57) (pc' := 16) rfl rfl rfl (fun c1 => ?_) (fun c1 => ?_)
      · have hW := hW.1 c1
        refine pq_l (pc' := 58) rfl rfl rfl rfl rfl ?_
        refine pq_cVV (pc' := 61) rfl rfl rfl rfl rfl (c_measure6 L ys d s hv l1 _ hW) (fun s2 hr => ?_)
        obtain ⟨s2v, hW⟩ := hr
        exact pq_vret rfl ⟨rfl, s2v, hW⟩
      · have hW := hW.2 c1
        refine pq_l (pc' := 17) rfl rfl rfl rfl rfl ?_
        refine pq_gr (pc' := 20) (c := 59) (v := 59) rfl rfl rfl rfl rfl rfl hv ?_
        refine pq_l (pc' := 21) rfl rfl rfl rfl rfl ?_
        refine pq_la (pc' := 22) rfl rfl (fun r4a r4b r4 => ?_)
        have hW := hW ⟨⟨r4a, r4b⟩, r4⟩
        refine pq_cSI (pc' := 25) rfl rfl rfl rfl rfl (c_J9_abs_067f4 L ys d s hv (cga s 59 l3) r4 _ hW) (fun z6 s5 hr => ?_)
        obtain ⟨s5v, z6r, hW⟩ := hr
        refine pq_k (pc' := 28) (v := (1, 1000000000)) rfl rfl rfl (fun _ => rfl) ?_
        refine pq_lcmp (pc' := 29) rfl rfl z6r (⟨by decide, by decide⟩ : lR 1000000000) (fun z7 z7c => ?_)
        refine pq_z_le (pt := 39) (pc' := 32) rfl rfl rfl (fun c8 => ?_) (fun c8 => ?_)
        · have c8 : z6 ≤ 1000000000 := by omega
          have hW := hW.1 c8
          refine pq_l (pc' := 40) rfl rfl rfl rfl rfl ?_
          refine pq_gr (pc' := 43) (c := (l1 + 1)) (v := 0) rfl rfl rfl rfl rfl rfl s5v ?_
          refine pq_l (pc' := 44) rfl rfl rfl rfl rfl ?_
          refine pq_l (pc' := 45) rfl rfl rfl rfl rfl ?_
          refine pq_gr (pc' := 48) (c := 59) (v := 59) rfl rfl rfl rfl rfl rfl s5v ?_
          refine pq_l (pc' := 49) rfl rfl rfl rfl rfl ?_
          refine pq_la (pc' := 50) rfl rfl (fun r9a r9b r9 => ?_)
          have hW := hW ⟨⟨r9a, r9b⟩, r9⟩
          refine pq_ls (pc' := 51) rfl rfl s5v (fun s10a s10b s10 s10e s10v => ?_)
          have hW := hW ⟨s10a, s10b⟩ s10 s10e
          refine pq_inc (pc' := 54) rfl rfl rfl rfl ?_
          refine pq_gotoT (pc' := 10) rfl rfl (fun m11 m11l => ?_)
          refine pq_w [(0, (2, ((2 : Nat) : Int))), (1, (2, ((l1 : Nat) : Int))), (2, (0, l2)), (3, (0, (w32 (l3 + 1))))] ⟨rfl, rfl, rfl, rfl, trivial⟩ ?_
          exact ih10 m11 (by omega) (by omega) (w32 (l3 + 1)) (w32_r _) s10 s10v hW
        · have c8 : ¬ (z6 ≤ 1000000000) := by omega
          have hW := hW.2 c8
          refine pq_l (pc' := 33) rfl rfl rfl rfl rfl ?_
          refine pq_k (pc' := 34) (v := (0, 3)) rfl rfl rfl (fun _ => rfl) ?_
          refine pq_l (pc' := 35) rfl rfl rfl rfl rfl ?_
          refine pq_cVV (pc' := 38) rfl rfl rfl rfl rfl (c_fail7 L ys d s5 s5v 3 (⟨by decide, by decide⟩ : iR 3) l2 l2r _ hW) (fun s12 hr => ?_)
          obtain ⟨s12v, hW⟩ := hr
          exact pq_vret rfl ⟨rfl, s12v, hW⟩
  unfold C_accept7 at hW
  refine pq_l (pc' := 1) rfl rfl rfl rfl rfl ?_
  refine pq_gi (pc' := 4) rfl rfl rfl rfl rfl (fun r14 => ?_)
  refine pq_z_eq (pt := 8) (pc' := 7) rfl rfl rfl (fun c15 => ?_) (fun c15 => ?_)
  · have hW := hW.1 c15
    refine pq_k (pc' := 9) (v := (0, 0)) rfl rfl rfl (fun _ => rfl) ?_
    refine pq_s (pc' := 10) rfl rfl rfl rfl rfl ?_
    refine pq_w [(0, (2, ((2 : Nat) : Int))), (1, (2, ((l1 : Nat) : Int))), (2, (0, l2)), (3, (0, 0))] ⟨rfl, rfl, rfl, rfl, trivial⟩ ?_
    obtain ⟨I9, hI9, hB9⟩ := hW
    exact J10 l1 l2 l2r I9 hB9 N (by omega) 0 (⟨by decide, by decide⟩ : iR 0) s hv hI9
  · have hW := hW.2 c15
    exact pq_vret rfl ⟨rfl, hv, hW⟩
def C_isSign9 (l0 : Int) (s : im_S) (Q : Int → im_S → Prop) : Prop := (∀ v201 : Int, v201 = (if l0 < 32 then 0 else (if 126 < l0 then 0 else 1)) → (Q v201 s))
set_option maxRecDepth 16384 in
theorem c_isSign9 (L : Nat) (ys : Nat → Int32) (d : Nat) (s : im_S) (hv : jI s) (l0 : Int) (l0r : iR l0) (Q : Int → im_S → Prop) (hW : C_isSign9 l0 s Q) : pcI L ys 0 d 218 [(0, l0)] s (fun z9 s9 => jI s9 ∧ iR z9 ∧ Q z9 s9) := by
  intro res hres
  refine pq_start (M := rm_p_X9_isSign) (Q := (fun r : im_Re => ∃ z, r.1 = some (0, z) ∧ (jI r.2 ∧ iR z ∧ Q z r.2))) om_X9_isSign (fun d N => ?_) res hres
  refine pq_w [(0, (0, l0))] ⟨rfl, trivial⟩ ?_
  unfold C_isSign9 at hW
  refine pq_l (pc' := 1) rfl rfl rfl rfl rfl ?_
  refine pq_k (pc' := 3) (v := (0, 32)) rfl rfl rfl (fun _ => rfl) ?_
  have J202 : ∀ v201 : Int, iR v201 → ((Q v201 s)) → pq L ys d N rm_p_X9_isSign (17, [], [(0, v201)], s) (fun r : im_Re => ∃ z, r.1 = some (0, z) ∧ (jI r.2 ∧ iR z ∧ Q z r.2)) := by
    intro v201 v201r hW
    exact pq_iret rfl ⟨_, rfl, hv, v201r, hW⟩
  refine pq_c_lt (pt := 16) (pc' := 6) rfl rfl rfl (fun c1 => ?_) (fun c1 => ?_)
  · refine pq_k (pc' := 17) (v := (0, 0)) rfl rfl rfl (fun _ => rfl) ?_
    refine pq_w [] trivial ?_
    exact J202 0 (⟨by decide, by decide⟩ : iR 0) (hW _ (by rw [if_pos c1]))
  · refine pq_l (pc' := 7) rfl rfl rfl rfl rfl ?_
    refine pq_k (pc' := 9) (v := (0, 126)) rfl rfl rfl (fun _ => rfl) ?_
    refine pq_c_gt (pt := 16) (pc' := 12) rfl rfl rfl (fun c2 => ?_) (fun c2 => ?_)
    · refine pq_k (pc' := 17) (v := (0, 0)) rfl rfl rfl (fun _ => rfl) ?_
      refine pq_w [] trivial ?_
      exact J202 0 (⟨by decide, by decide⟩ : iR 0) (hW _ (by rw [if_neg (fun z => c1 z), if_pos c2]))
    · refine pq_k (pc' := 13) (v := (0, 1)) rfl rfl rfl (fun _ => rfl) ?_
      refine pq_goto (pc' := 17) rfl rfl ?_
      refine pq_w [] trivial ?_
      exact J202 1 (⟨by decide, by decide⟩ : iR 1) (hW _ (by rw [if_neg (fun z => c1 z), if_neg (fun z => c2 z)]))
def C_type9_17 (s : im_S) (Q : Int → im_S → Prop) : Prop := (Q (-1) s)
def C_type9 (l1 : Int) (s : im_S) (Q : Int → im_S → Prop) : Prop := (C_isSign9 l1 s (fun z2 s1 => ((z2 = 0 → (C_type9_17 s1 Q)) ∧ (¬ (z2 = 0) → (((cgf s1 0 0) < 400 → ((0 ≤ (cgf s1 0 0) ∧ (cgf s1 0 0) < gln 3) → ∀ s7, s7 = cpa s1 3 (cgf s1 0 0) (c16 l1) → (∀ s9, s9 = cpf s7 0 0 (w32 ((cgf s7 0 0) + 1)) → (Q (cgf s9 0 0) s9)))) ∧ (¬ ((cgf s1 0 0) < 400) → (C_type9_17 s1 Q)))))))
set_option maxRecDepth 16384 in
theorem c_type9 (L : Nat) (ys : Nat → Int32) (d : Nat) (s : im_S) (hv : jI s) (l1 : Int) (l1r : iR l1) (Q : Int → im_S → Prop) (hW : C_type9 l1 s Q) : pcI L ys 0 d 226 [(2, ((0 : Nat) : Int)), (0, l1)] s (fun z9 s9 => jI s9 ∧ iR z9 ∧ Q z9 s9) := by
  intro res hres
  refine pq_start (M := rm_p_X9_type) (Q := (fun r : im_Re => ∃ z, r.1 = some (0, z) ∧ (jI r.2 ∧ iR z ∧ Q z r.2))) om_X9_type (fun d N => ?_) res hres
  refine pq_w [(0, (2, ((0 : Nat) : Int))), (1, (0, l1))] ⟨rfl, rfl, trivial⟩ ?_
  have J17 : ∀ N17 : Nat, N17 ≤ N → ∀ (s : im_S) (hv : jI s), C_type9_17 s Q → pq L ys d N17 rm_p_X9_type (17, [], [], s) (fun r : im_Re => ∃ z, r.1 = some (0, z) ∧ (jI r.2 ∧ iR z ∧ Q z r.2)) := by
    intro N17 hN17 s hv hW
    unfold C_type9_17 at hW
    refine pq_k (pc' := 18) (v := (0, (-1))) rfl rfl rfl (fun _ => rfl) ?_
    exact pq_iret rfl ⟨_, rfl, hv, (⟨by decide, by decide⟩ : iR (-1)), hW⟩
  unfold C_type9 at hW
  refine pq_l (pc' := 1) rfl rfl rfl rfl rfl ?_
  refine pq_cSI (pc' := 4) rfl rfl rfl rfl rfl (c_isSign9 L ys d s hv l1 l1r _ hW) (fun z2 s1 hr => ?_)
  obtain ⟨s1v, z2r, hW⟩ := hr
  refine pq_z_eq (pt := 17) (pc' := 7) rfl rfl rfl (fun c3 => ?_) (fun c3 => ?_)
  · have hW := hW.1 c3
    refine pq_w [] trivial ?_
    exact J17 N (by omega) s1 s1v hW
  · have hW := hW.2 c3
    refine pq_l (pc' := 8) rfl rfl rfl rfl rfl ?_
    refine pq_gi (pc' := 11) rfl rfl rfl rfl rfl (fun r4 => ?_)
    refine pq_k (pc' := 14) (v := (0, 400)) rfl rfl rfl (fun _ => rfl) ?_
    refine pq_c_lt (pt := 19) (pc' := 17) rfl rfl rfl (fun c5 => ?_) (fun c5 => ?_)
    · have hW := hW.1 c5
      refine pq_l (pc' := 20) rfl rfl rfl rfl rfl ?_
      refine pq_gr (pc' := 23) (c := 2) (v := 2) rfl rfl rfl rfl rfl rfl s1v ?_
      refine pq_gr (pc' := 26) (c := 3) (v := 3) rfl rfl rfl rfl rfl rfl s1v ?_
      refine pq_l (pc' := 27) rfl rfl rfl rfl rfl ?_
      refine pq_gi (pc' := 30) rfl rfl rfl rfl rfl (fun r6 => ?_)
      refine pq_l (pc' := 31) rfl rfl rfl rfl rfl ?_
      refine pq_i2c (pc' := 32) rfl rfl ?_
      refine pq_cs (pc' := 33) rfl rfl (by decide) (by decide) s1v (fun s7a s7b s7 s7e s7v => ?_)
      have hW := hW ⟨s7a, s7b⟩ s7 s7e
      refine pq_l (pc' := 34) rfl rfl rfl rfl rfl ?_
      refine pq_x (pc' := 35) rfl rfl rfl (fun _ => rfl) ?_
      refine pq_gi (pc' := 38) rfl rfl rfl rfl rfl (fun r8 => ?_)
      refine pq_k (pc' := 39) (v := (0, 1)) rfl rfl rfl (fun _ => rfl) ?_
      refine pq_add (pc' := 40) rfl rfl ?_
      refine pq_pX (pc' := 43) rfl rfl rfl rfl (fun e => absurd e (by decide)) (fun e => absurd e (by decide)) s7v (fun s9 s9e s9v => ?_)
      have hW := hW s9 s9e
      refine pq_l (pc' := 44) rfl rfl rfl rfl rfl ?_
      refine pq_gi (pc' := 47) rfl rfl rfl rfl rfl (fun r10 => ?_)
      exact pq_iret rfl ⟨_, rfl, s9v, r10, hW⟩
    · have hW := hW.2 c5
      refine pq_w [] trivial ?_
      exact J17 N (by omega) s1 s1v hW
def C_four9_122 (K69 : Int × im_S → Prop) (l1 : Int) (l3 : Int) (s : im_S) (Q : Int → im_S → Prop) : Prop := (K69 ((w32 (l3 + (-8))), s))
def C_four9_69 (K69 : Int × im_S → Prop) (l1 : Int) (l3 : Int) (s : im_S) (Q : Int → im_S → Prop) : Prop := ((l3 < 0 → (Q (cgf s 0 0) s)) ∧ (¬ (l3 < 0) → (((andI (ushI l1 l3) 255) = 0 → (C_four9_122 K69 l1 l3 s Q)) ∧ (¬ ((andI (ushI l1 l3) 255) = 0) → ((400 ≤ (cgf s 0 0) → (C_four9_122 K69 l1 l3 s Q)) ∧ (¬ (400 ≤ (cgf s 0 0)) → ((0 ≤ (cgf s 0 0) ∧ (cgf s 0 0) < gln 3) → ∀ s8, s8 = cpa s 3 (cgf s 0 0) (c16 (andI (ushI l1 l3) 255)) → (∀ s10, s10 = cpf s8 0 0 (w32 ((cgf s8 0 0) + 1)) → (C_four9_122 K69 l1 l3 s10 Q)))))))))
def C_four9_33 (K5 : Int × Int × im_S → Prop) (l1 : Int) (l2 : Int) (l3 : Int) (l4 : Int) (s : im_S) (Q : Int → im_S → Prop) : Prop := (∀ v211 : Int, v211 = (if l4 = 0 then 0 else 1) → (K5 ((w32 (l2 + v211)), (w32 (l3 + (-8))), s)))
def C_four9_5 (K5 : Int × Int × im_S → Prop) (l1 : Int) (l2 : Int) (l3 : Int) (s : im_S) (Q : Int → im_S → Prop) : Prop := ((l3 < 0 → (((w32 ((cgf s 0 0) + l2)) ≤ 400 → (ploop (fun (K : Int × im_S → Prop) (a : Int × im_S) => C_four9_69 K l1 a.1 a.2 Q) (24, s))) ∧ (¬ ((w32 ((cgf s 0 0) + l2)) ≤ 400) → (Q (-1) s)))) ∧ (¬ (l3 < 0) → (((andI (ushI l1 l3) 255) = 0 → (C_four9_33 K5 l1 l2 l3 (andI (ushI l1 l3) 255) s Q)) ∧ (¬ ((andI (ushI l1 l3) 255) = 0) → (C_isSign9 (andI (ushI l1 l3) 255) s (fun z219 s218 => ((¬ (z219 = 0) → (C_four9_33 K5 l1 l2 l3 (andI (ushI l1 l3) 255) s218 Q)) ∧ (z219 = 0 → (Q (-1) s218)))))))))
def C_four9 (l1 : Int) (s : im_S) (Q : Int → im_S → Prop) : Prop := (ploop (fun (K : Int × Int × im_S → Prop) (a : Int × Int × im_S) => C_four9_5 K l1 a.1 a.2.1 a.2.2 Q) (0, 24, s))
set_option maxRecDepth 16384 in
theorem c_four9 (L : Nat) (ys : Nat → Int32) (d : Nat) (s : im_S) (hv : jI s) (l1 : Int) (l1r : iR l1) (Q : Int → im_S → Prop) (hW : C_four9 l1 s Q) : pcI L ys 0 d 211 [(2, ((0 : Nat) : Int)), (0, l1)] s (fun z9 s9 => jI s9 ∧ iR z9 ∧ Q z9 s9) := by
  intro res hres
  refine pq_start (M := rm_p_X9_four) (Q := (fun r : im_Re => ∃ z, r.1 = some (0, z) ∧ (jI r.2 ∧ iR z ∧ Q z r.2))) om_X9_four (fun d N => ?_) res hres
  refine pq_w [(0, (2, ((0 : Nat) : Int))), (1, (0, l1))] ⟨rfl, rfl, trivial⟩ ?_
  have J69 : ∀ (l1 : Int) (l1r : iR l1) (I69 : Int × im_S → Prop) (hB69 : ∀ a : Int × im_S, I69 a → C_four9_69 I69 l1 a.1 a.2 Q), ∀ N69 : Nat, N69 ≤ N → ∀ (l3 : Int) (l3r : iR l3) (s : im_S) (hv : jI s), I69 (l3, s) → pq L ys d N69 rm_p_X9_four (69, [(0, (2, ((0 : Nat) : Int))), (1, (0, l1)), (3, (0, l3))], [], s) (fun r : im_Re => ∃ z, r.1 = some (0, z) ∧ (jI r.2 ∧ iR z ∧ Q z r.2)) := by
    intro l1 l1r I69 hB69 N69
    induction N69 using Nat.strongRecOn with
    | _ N69 ih69 =>
      intro hN69 l3 l3r s hv hI
      have hW : C_four9_69 I69 l1 l3 s Q := hB69 (l3, s) hI
      have J122 : ∀ N122 : Nat, N122 ≤ N69 → ∀ (l3 : Int) (l3r : iR l3) (s : im_S) (hv : jI s), C_four9_122 I69 l1 l3 s Q → pq L ys d N122 rm_p_X9_four (122, [(0, (2, ((0 : Nat) : Int))), (1, (0, l1)), (3, (0, l3))], [], s) (fun r : im_Re => ∃ z, r.1 = some (0, z) ∧ (jI r.2 ∧ iR z ∧ Q z r.2)) := by
        intro N122 hN122 l3 l3r s hv hW
        unfold C_four9_122 at hW
        refine pq_inc (pc' := 125) rfl rfl rfl rfl ?_
        refine pq_gotoT (pc' := 69) rfl rfl (fun m1 m1l => ?_)
        refine pq_w [(0, (2, ((0 : Nat) : Int))), (1, (0, l1)), (3, (0, (w32 (l3 + (-8)))))] ⟨rfl, rfl, rfl, trivial⟩ ?_
        exact ih69 m1 (by omega) (by omega) (w32 (l3 + (-8))) (w32_r _) s hv hW
      unfold C_four9_69 at hW
      refine pq_l (pc' := 70) rfl rfl rfl rfl rfl ?_
      refine pq_z_lt (pt := 128) (pc' := 73) rfl rfl rfl (fun c2 => ?_) (fun c2 => ?_)
      · have hW := hW.1 c2
        refine pq_l (pc' := 129) rfl rfl rfl rfl rfl ?_
        refine pq_gi (pc' := 132) rfl rfl rfl rfl rfl (fun r3 => ?_)
        exact pq_iret rfl ⟨_, rfl, hv, r3, hW⟩
      · have hW := hW.2 c2
        refine pq_l (pc' := 74) rfl rfl rfl rfl rfl ?_
        refine pq_l (pc' := 75) rfl rfl rfl rfl rfl ?_
        refine pq_iushr (pc' := 76) rfl rfl ?_
        refine pq_k (pc' := 79) (v := (0, 255)) rfl rfl rfl (fun _ => rfl) ?_
        refine pq_iand (pc' := 80) rfl rfl ?_
        refine pq_s (pc' := 82) rfl rfl rfl rfl rfl ?_
        refine pq_l (pc' := 84) rfl rfl rfl rfl rfl ?_
        refine pq_z_eq (pt := 122) (pc' := 87) rfl rfl rfl (fun c4 => ?_) (fun c4 => ?_)
        · have hW := hW.1 c4
          refine pq_w [(0, (2, ((0 : Nat) : Int))), (1, (0, l1)), (3, (0, l3))] ⟨rfl, rfl, rfl, trivial⟩ ?_
          exact J122 N69 (by omega) l3 l3r s hv hW
        · have hW := hW.2 c4
          refine pq_l (pc' := 88) rfl rfl rfl rfl rfl ?_
          refine pq_gi (pc' := 91) rfl rfl rfl rfl rfl (fun r5 => ?_)
          refine pq_k (pc' := 94) (v := (0, 400)) rfl rfl rfl (fun _ => rfl) ?_
          refine pq_c_ge (pt := 122) (pc' := 97) rfl rfl rfl (fun c6 => ?_) (fun c6 => ?_)
          · have hW := hW.1 c6
            refine pq_w [(0, (2, ((0 : Nat) : Int))), (1, (0, l1)), (3, (0, l3))] ⟨rfl, rfl, rfl, trivial⟩ ?_
            exact J122 N69 (by omega) l3 l3r s hv hW
          · have hW := hW.2 c6
            refine pq_l (pc' := 98) rfl rfl rfl rfl rfl ?_
            refine pq_gr (pc' := 101) (c := 2) (v := 2) rfl rfl rfl rfl rfl rfl hv ?_
            refine pq_gr (pc' := 104) (c := 3) (v := 3) rfl rfl rfl rfl rfl rfl hv ?_
            refine pq_l (pc' := 105) rfl rfl rfl rfl rfl ?_
            refine pq_gi (pc' := 108) rfl rfl rfl rfl rfl (fun r7 => ?_)
            refine pq_l (pc' := 110) rfl rfl rfl rfl rfl ?_
            refine pq_i2c (pc' := 111) rfl rfl ?_
            refine pq_cs (pc' := 112) rfl rfl (by decide) (by decide) hv (fun s8a s8b s8 s8e s8v => ?_)
            have hW := hW ⟨s8a, s8b⟩ s8 s8e
            refine pq_l (pc' := 113) rfl rfl rfl rfl rfl ?_
            refine pq_x (pc' := 114) rfl rfl rfl (fun _ => rfl) ?_
            refine pq_gi (pc' := 117) rfl rfl rfl rfl rfl (fun r9 => ?_)
            refine pq_k (pc' := 118) (v := (0, 1)) rfl rfl rfl (fun _ => rfl) ?_
            refine pq_add (pc' := 119) rfl rfl ?_
            refine pq_pX (pc' := 122) rfl rfl rfl rfl (fun e => absurd e (by decide)) (fun e => absurd e (by decide)) s8v (fun s10 s10e s10v => ?_)
            have hW := hW s10 s10e
            refine pq_w [(0, (2, ((0 : Nat) : Int))), (1, (0, l1)), (3, (0, l3))] ⟨rfl, rfl, rfl, trivial⟩ ?_
            exact J122 N69 (by omega) l3 l3r s10 s10v hW
  have J5 : ∀ (l1 : Int) (l1r : iR l1) (I5 : Int × Int × im_S → Prop) (hB5 : ∀ a : Int × Int × im_S, I5 a → C_four9_5 I5 l1 a.1 a.2.1 a.2.2 Q), ∀ N5 : Nat, N5 ≤ N → ∀ (l2 : Int) (l2r : iR l2) (l3 : Int) (l3r : iR l3) (s : im_S) (hv : jI s), I5 (l2, l3, s) → pq L ys d N5 rm_p_X9_four (5, [(0, (2, ((0 : Nat) : Int))), (1, (0, l1)), (2, (0, l2)), (3, (0, l3))], [], s) (fun r : im_Re => ∃ z, r.1 = some (0, z) ∧ (jI r.2 ∧ iR z ∧ Q z r.2)) := by
    intro l1 l1r I5 hB5 N5
    induction N5 using Nat.strongRecOn with
    | _ N5 ih5 =>
      intro hN5 l2 l2r l3 l3r s hv hI
      have hW : C_four9_5 I5 l1 l2 l3 s Q := hB5 (l2, l3, s) hI
      have J33 : ∀ N33 : Nat, N33 ≤ N5 → ∀ (l2 : Int) (l2r : iR l2) (l3 : Int) (l3r : iR l3) (l4 : Int) (l4r : iR l4) (s : im_S) (hv : jI s), C_four9_33 I5 l1 l2 l3 l4 s Q → pq L ys d N33 rm_p_X9_four (33, [(0, (2, ((0 : Nat) : Int))), (1, (0, l1)), (2, (0, l2)), (3, (0, l3)), (4, (0, l4))], [], s) (fun r : im_Re => ∃ z, r.1 = some (0, z) ∧ (jI r.2 ∧ iR z ∧ Q z r.2)) := by
        intro N33 hN33 l2 l2r l3 l3r l4 l4r s hv hW
        unfold C_four9_33 at hW
        refine pq_l (pc' := 34) rfl rfl rfl rfl rfl ?_
        refine pq_l (pc' := 36) rfl rfl rfl rfl rfl ?_
        have J212 : ∀ v211 : Int, iR v211 → ((I5 ((w32 (l2 + v211)), (w32 (l3 + (-8))), s))) → pq L ys d N33 rm_p_X9_four (44, [(0, (2, ((0 : Nat) : Int))), (1, (0, l1)), (3, (0, l3))], [(0, v211), (0, l2)], s) (fun r : im_Re => ∃ z, r.1 = some (0, z) ∧ (jI r.2 ∧ iR z ∧ Q z r.2)) := by
          intro v211 v211r hW
          refine pq_add (pc' := 45) rfl rfl ?_
          refine pq_s (pc' := 46) rfl rfl rfl rfl rfl ?_
          refine pq_inc (pc' := 49) rfl rfl rfl rfl ?_
          refine pq_gotoT (pc' := 5) rfl rfl (fun m213 m213l => ?_)
          refine pq_w [(0, (2, ((0 : Nat) : Int))), (1, (0, l1)), (2, (0, (w32 (l2 + v211)))), (3, (0, (w32 (l3 + (-8)))))] ⟨rfl, rfl, rfl, rfl, trivial⟩ ?_
          exact ih5 m213 (by omega) (by omega) (w32 (l2 + v211)) (w32_r _) (w32 (l3 + (-8))) (w32_r _) s hv hW
        refine pq_z_eq (pt := 43) (pc' := 39) rfl rfl rfl (fun c11 => ?_) (fun c11 => ?_)
        · refine pq_k (pc' := 44) (v := (0, 0)) rfl rfl rfl (fun _ => rfl) ?_
          refine pq_w [(0, (2, ((0 : Nat) : Int))), (1, (0, l1)), (3, (0, l3))] ⟨rfl, rfl, rfl, trivial⟩ ?_
          exact J212 0 (⟨by decide, by decide⟩ : iR 0) (hW _ (by rw [if_pos c11]))
        · refine pq_k (pc' := 40) (v := (0, 1)) rfl rfl rfl (fun _ => rfl) ?_
          refine pq_goto (pc' := 44) rfl rfl ?_
          refine pq_w [(0, (2, ((0 : Nat) : Int))), (1, (0, l1)), (3, (0, l3))] ⟨rfl, rfl, rfl, trivial⟩ ?_
          exact J212 1 (⟨by decide, by decide⟩ : iR 1) (hW _ (by rw [if_neg (fun z => c11 z)]))
      unfold C_four9_5 at hW
      refine pq_l (pc' := 6) rfl rfl rfl rfl rfl ?_
      refine pq_z_lt (pt := 52) (pc' := 9) rfl rfl rfl (fun c214 => ?_) (fun c214 => ?_)
      · have hW := hW.1 c214
        refine pq_l (pc' := 53) rfl rfl rfl rfl rfl ?_
        refine pq_gi (pc' := 56) rfl rfl rfl rfl rfl (fun r215 => ?_)
        refine pq_l (pc' := 57) rfl rfl rfl rfl rfl ?_
        refine pq_add (pc' := 58) rfl rfl ?_
        refine pq_k (pc' := 61) (v := (0, 400)) rfl rfl rfl (fun _ => rfl) ?_
        refine pq_c_le (pt := 66) (pc' := 64) rfl rfl rfl (fun c216 => ?_) (fun c216 => ?_)
        · have hW := hW.1 c216
          refine pq_k (pc' := 68) (v := (0, 24)) rfl rfl rfl (fun _ => rfl) ?_
          refine pq_s (pc' := 69) rfl rfl rfl rfl rfl ?_
          refine pq_w [(0, (2, ((0 : Nat) : Int))), (1, (0, l1)), (3, (0, 24))] ⟨rfl, rfl, rfl, trivial⟩ ?_
          obtain ⟨I9, hI9, hB9⟩ := hW
          exact J69 l1 l1r I9 hB9 N5 (by omega) 24 (⟨by decide, by decide⟩ : iR 24) s hv hI9
        · have hW := hW.2 c216
          refine pq_k (pc' := 65) (v := (0, (-1))) rfl rfl rfl (fun _ => rfl) ?_
          exact pq_iret rfl ⟨_, rfl, hv, (⟨by decide, by decide⟩ : iR (-1)), hW⟩
      · have hW := hW.2 c214
        refine pq_l (pc' := 10) rfl rfl rfl rfl rfl ?_
        refine pq_l (pc' := 11) rfl rfl rfl rfl rfl ?_
        refine pq_iushr (pc' := 12) rfl rfl ?_
        refine pq_k (pc' := 15) (v := (0, 255)) rfl rfl rfl (fun _ => rfl) ?_
        refine pq_iand (pc' := 16) rfl rfl ?_
        refine pq_s (pc' := 18) rfl rfl rfl rfl rfl ?_
        refine pq_l (pc' := 20) rfl rfl rfl rfl rfl ?_
        refine pq_z_eq (pt := 33) (pc' := 23) rfl rfl rfl (fun c217 => ?_) (fun c217 => ?_)
        · have hW := hW.1 c217
          refine pq_w [(0, (2, ((0 : Nat) : Int))), (1, (0, l1)), (2, (0, l2)), (3, (0, l3)), (4, (0, (andI (ushI l1 l3) 255)))] ⟨rfl, rfl, rfl, rfl, rfl, trivial⟩ ?_
          exact J33 N5 (by omega) l2 l2r l3 l3r (andI (ushI l1 l3) 255) (andI_r _ _) s hv hW
        · have hW := hW.2 c217
          refine pq_l (pc' := 25) rfl rfl rfl rfl rfl ?_
          refine pq_cSI (pc' := 28) rfl rfl rfl rfl rfl (c_isSign9 L ys d s hv (andI (ushI l1 l3) 255) (andI_r _ _) _ hW) (fun z219 s218 hr => ?_)
          obtain ⟨s218v, z219r, hW⟩ := hr
          refine pq_z_ne (pt := 33) (pc' := 31) rfl rfl rfl (fun c220 => ?_) (fun c220 => ?_)
          · have hW := hW.1 c220
            refine pq_w [(0, (2, ((0 : Nat) : Int))), (1, (0, l1)), (2, (0, l2)), (3, (0, l3)), (4, (0, (andI (ushI l1 l3) 255)))] ⟨rfl, rfl, rfl, rfl, rfl, trivial⟩ ?_
            exact J33 N5 (by omega) l2 l2r l3 l3r (andI (ushI l1 l3) 255) (andI_r _ _) s218 s218v hW
          · have hW := hW.2 c220
            refine pq_k (pc' := 32) (v := (0, (-1))) rfl rfl rfl (fun _ => rfl) ?_
            exact pq_iret rfl ⟨_, rfl, s218v, (⟨by decide, by decide⟩ : iR (-1)), hW⟩
  unfold C_four9 at hW
  refine pq_k (pc' := 1) (v := (0, 0)) rfl rfl rfl (fun _ => rfl) ?_
  refine pq_s (pc' := 2) rfl rfl rfl rfl rfl ?_
  refine pq_k (pc' := 4) (v := (0, 24)) rfl rfl rfl (fun _ => rfl) ?_
  refine pq_s (pc' := 5) rfl rfl rfl rfl rfl ?_
  refine pq_w [(0, (2, ((0 : Nat) : Int))), (1, (0, l1)), (2, (0, 0)), (3, (0, 24))] ⟨rfl, rfl, rfl, rfl, trivial⟩ ?_
  obtain ⟨I9, hI9, hB9⟩ := hW
  exact J5 l1 l1r I9 hB9 N (by omega) 0 (⟨by decide, by decide⟩ : iR 0) 24 (⟨by decide, by decide⟩ : iR 24) s hv hI9
def C_count9 (l1 : Int) (s : im_S) (Q : Int → im_S → Prop) : Prop := ((¬ (l1 = 0) → ((¬ (l1 = 1) → ((¬ (l1 = 2) → ((¬ ((cgf s 0 3) = 0) → ((¬ (l1 = 3) → ((¬ (l1 = 4) → (∀ v208 : Int, v208 = (if ¬ (l1 = 5) then (-1) else (cgf s 1 7)) → (Q v208 s))) ∧ (l1 = 4 → (Q (cgf s 1 4) s)))) ∧ (l1 = 3 → (Q (cgf s 2 11) s)))) ∧ ((cgf s 0 3) = 0 → (Q (-1) s)))) ∧ (l1 = 2 → (Q (cgf s 0 0) s)))) ∧ (l1 = 1 → (Q (cgf s 0 2) s)))) ∧ (l1 = 0 → (Q (cgf s 0 1) s)))
set_option maxRecDepth 16384 in
theorem c_count9 (L : Nat) (ys : Nat → Int32) (d : Nat) (s : im_S) (hv : jI s) (l1 : Int) (l1r : iR l1) (Q : Int → im_S → Prop) (hW : C_count9 l1 s Q) : pcI L ys 0 d 209 [(2, ((0 : Nat) : Int)), (0, l1)] s (fun z9 s9 => jI s9 ∧ iR z9 ∧ Q z9 s9) := by
  intro res hres
  refine pq_start (M := rm_p_X9_count) (Q := (fun r : im_Re => ∃ z, r.1 = some (0, z) ∧ (jI r.2 ∧ iR z ∧ Q z r.2))) om_X9_count (fun d N => ?_) res hres
  refine pq_w [(0, (2, ((0 : Nat) : Int))), (1, (0, l1))] ⟨rfl, rfl, trivial⟩ ?_
  unfold C_count9 at hW
  refine pq_l (pc' := 1) rfl rfl rfl rfl rfl ?_
  refine pq_z_ne (pt := 9) (pc' := 4) rfl rfl rfl (fun c1 => ?_) (fun c1 => ?_)
  · have hW := hW.1 c1
    refine pq_l (pc' := 10) rfl rfl rfl rfl rfl ?_
    refine pq_k (pc' := 11) (v := (0, 1)) rfl rfl rfl (fun _ => rfl) ?_
    refine pq_c_ne (pt := 19) (pc' := 14) rfl rfl rfl (fun c2 => ?_) (fun c2 => ?_)
    · have hW := hW.1 c2
      refine pq_l (pc' := 20) rfl rfl rfl rfl rfl ?_
      refine pq_k (pc' := 21) (v := (0, 2)) rfl rfl rfl (fun _ => rfl) ?_
      refine pq_c_ne (pt := 29) (pc' := 24) rfl rfl rfl (fun c3 => ?_) (fun c3 => ?_)
      · have hW := hW.1 c3
        refine pq_l (pc' := 30) rfl rfl rfl rfl rfl ?_
        refine pq_gi (pc' := 33) rfl rfl rfl rfl rfl (fun r4 => ?_)
        refine pq_z_ne (pt := 38) (pc' := 36) rfl rfl rfl (fun c5 => ?_) (fun c5 => ?_)
        · have hW := hW.1 c5
          refine pq_l (pc' := 39) rfl rfl rfl rfl rfl ?_
          refine pq_k (pc' := 40) (v := (0, 3)) rfl rfl rfl (fun _ => rfl) ?_
          refine pq_c_ne (pt := 51) (pc' := 43) rfl rfl rfl (fun c6 => ?_) (fun c6 => ?_)
          · have hW := hW.1 c6
            refine pq_l (pc' := 52) rfl rfl rfl rfl rfl ?_
            refine pq_k (pc' := 53) (v := (0, 4)) rfl rfl rfl (fun _ => rfl) ?_
            refine pq_c_ne (pt := 64) (pc' := 56) rfl rfl rfl (fun c7 => ?_) (fun c7 => ?_)
            · have hW := hW.1 c7
              refine pq_l (pc' := 65) rfl rfl rfl rfl rfl ?_
              refine pq_k (pc' := 66) (v := (0, 5)) rfl rfl rfl (fun _ => rfl) ?_
              have J209 : ∀ v208 : Int, iR v208 → ((Q v208 s)) → pq L ys d N rm_p_X9_count (80, [], [(0, v208)], s) (fun r : im_Re => ∃ z, r.1 = some (0, z) ∧ (jI r.2 ∧ iR z ∧ Q z r.2)) := by
                intro v208 v208r hW
                exact pq_iret rfl ⟨_, rfl, hv, v208r, hW⟩
              refine pq_c_ne (pt := 79) (pc' := 69) rfl rfl rfl (fun c8 => ?_) (fun c8 => ?_)
              · refine pq_k (pc' := 80) (v := (0, (-1))) rfl rfl rfl (fun _ => rfl) ?_
                refine pq_w [] trivial ?_
                exact J209 (-1) (⟨by decide, by decide⟩ : iR (-1)) (hW _ (by rw [if_pos c8]))
              · refine pq_l (pc' := 70) rfl rfl rfl rfl rfl ?_
                refine pq_gr (pc' := 73) (c := 1) (v := 1) rfl rfl rfl rfl rfl rfl hv ?_
                refine pq_gi (pc' := 76) rfl rfl rfl rfl rfl (fun r9 => ?_)
                refine pq_goto (pc' := 80) rfl rfl ?_
                refine pq_w [] trivial ?_
                exact J209 (cgf s 1 7) r9 (hW _ (by rw [if_neg (by omega)]))
            · have hW := hW.2 c7
              refine pq_l (pc' := 57) rfl rfl rfl rfl rfl ?_
              refine pq_gr (pc' := 60) (c := 1) (v := 1) rfl rfl rfl rfl rfl rfl hv ?_
              refine pq_gi (pc' := 63) rfl rfl rfl rfl rfl (fun r210 => ?_)
              exact pq_iret rfl ⟨_, rfl, hv, r210, hW⟩
          · have hW := hW.2 c6
            refine pq_l (pc' := 44) rfl rfl rfl rfl rfl ?_
            refine pq_gr (pc' := 47) (c := 2) (v := 2) rfl rfl rfl rfl rfl rfl hv ?_
            refine pq_gi (pc' := 50) rfl rfl rfl rfl rfl (fun r211 => ?_)
            exact pq_iret rfl ⟨_, rfl, hv, r211, hW⟩
        · have hW := hW.2 c5
          refine pq_k (pc' := 37) (v := (0, (-1))) rfl rfl rfl (fun _ => rfl) ?_
          exact pq_iret rfl ⟨_, rfl, hv, (⟨by decide, by decide⟩ : iR (-1)), hW⟩
      · have hW := hW.2 c3
        refine pq_l (pc' := 25) rfl rfl rfl rfl rfl ?_
        refine pq_gi (pc' := 28) rfl rfl rfl rfl rfl (fun r212 => ?_)
        exact pq_iret rfl ⟨_, rfl, hv, r212, hW⟩
    · have hW := hW.2 c2
      refine pq_l (pc' := 15) rfl rfl rfl rfl rfl ?_
      refine pq_gi (pc' := 18) rfl rfl rfl rfl rfl (fun r213 => ?_)
      exact pq_iret rfl ⟨_, rfl, hv, r213, hW⟩
  · have hW := hW.2 c1
    refine pq_l (pc' := 5) rfl rfl rfl rfl rfl ?_
    refine pq_gi (pc' := 8) rfl rfl rfl rfl rfl (fun r214 => ?_)
    exact pq_iret rfl ⟨_, rfl, hv, r214, hW⟩
def C_isAtom9 (l1 : Int) (s : im_S) (Q : Int → im_S → Prop) : Prop := (∀ v202 : Int, v202 = (if (cgf s 0 3) = 0 then 0 else (if l1 < 0 then 0 else (if (cgf s 2 11) ≤ l1 then 0 else 1))) → (Q v202 s))
set_option maxRecDepth 16384 in
theorem c_isAtom9 (L : Nat) (ys : Nat → Int32) (d : Nat) (s : im_S) (hv : jI s) (l1 : Int) (l1r : iR l1) (Q : Int → im_S → Prop) (hW : C_isAtom9 l1 s Q) : pcI L ys 0 d 214 [(2, ((0 : Nat) : Int)), (0, l1)] s (fun z9 s9 => jI s9 ∧ iR z9 ∧ Q z9 s9) := by
  intro res hres
  refine pq_start (M := rm_p_X9_isAtom) (Q := (fun r : im_Re => ∃ z, r.1 = some (0, z) ∧ (jI r.2 ∧ iR z ∧ Q z r.2))) om_X9_isAtom (fun d N => ?_) res hres
  refine pq_w [(0, (2, ((0 : Nat) : Int))), (1, (0, l1))] ⟨rfl, rfl, trivial⟩ ?_
  unfold C_isAtom9 at hW
  refine pq_l (pc' := 1) rfl rfl rfl rfl rfl ?_
  refine pq_gi (pc' := 4) rfl rfl rfl rfl rfl (fun r1 => ?_)
  have J203 : ∀ v202 : Int, iR v202 → ((Q v202 s)) → pq L ys d N rm_p_X9_isAtom (27, [], [(0, v202)], s) (fun r : im_Re => ∃ z, r.1 = some (0, z) ∧ (jI r.2 ∧ iR z ∧ Q z r.2)) := by
    intro v202 v202r hW
    exact pq_iret rfl ⟨_, rfl, hv, v202r, hW⟩
  refine pq_z_eq (pt := 26) (pc' := 7) rfl rfl rfl (fun c2 => ?_) (fun c2 => ?_)
  · refine pq_k (pc' := 27) (v := (0, 0)) rfl rfl rfl (fun _ => rfl) ?_
    refine pq_w [] trivial ?_
    exact J203 0 (⟨by decide, by decide⟩ : iR 0) (hW _ (by rw [if_pos c2]))
  · refine pq_l (pc' := 8) rfl rfl rfl rfl rfl ?_
    refine pq_z_lt (pt := 26) (pc' := 11) rfl rfl rfl (fun c3 => ?_) (fun c3 => ?_)
    · refine pq_k (pc' := 27) (v := (0, 0)) rfl rfl rfl (fun _ => rfl) ?_
      refine pq_w [] trivial ?_
      exact J203 0 (⟨by decide, by decide⟩ : iR 0) (hW _ (by rw [if_neg (fun z => c2 z), if_pos c3]))
    · refine pq_l (pc' := 12) rfl rfl rfl rfl rfl ?_
      refine pq_l (pc' := 13) rfl rfl rfl rfl rfl ?_
      refine pq_gr (pc' := 16) (c := 2) (v := 2) rfl rfl rfl rfl rfl rfl hv ?_
      refine pq_gi (pc' := 19) rfl rfl rfl rfl rfl (fun r4 => ?_)
      refine pq_c_ge (pt := 26) (pc' := 22) rfl rfl rfl (fun c5 => ?_) (fun c5 => ?_)
      · refine pq_k (pc' := 27) (v := (0, 0)) rfl rfl rfl (fun _ => rfl) ?_
        refine pq_w [] trivial ?_
        exact J203 0 (⟨by decide, by decide⟩ : iR 0) (hW _ (by rw [if_neg (fun z => c2 z), if_neg (fun z => c3 z), if_pos c5]))
      · refine pq_k (pc' := 23) (v := (0, 1)) rfl rfl rfl (fun _ => rfl) ?_
        refine pq_goto (pc' := 27) rfl rfl ?_
        refine pq_w [] trivial ?_
        exact J203 1 (⟨by decide, by decide⟩ : iR 1) (hW _ (by rw [if_neg (fun z => c2 z), if_neg (fun z => c3 z), if_neg (fun z => c5 z)]))
def C_atom9_116 (k0 : Int) (s : im_S) (Q : Int → im_S → Prop) : Prop := (Q k0 s)
def C_atom9_18 (s : im_S) (Q : Int → im_S → Prop) : Prop := (Q (-2000000000) s)
def C_atom9 (l1 : Int) (l2 : Int) (s : im_S) (Q : Int → im_S → Prop) : Prop := (C_isAtom9 l1 s (fun z2 s1 => ((z2 = 0 → (C_atom9_18 s1 Q)) ∧ (¬ (z2 = 0) → ((l2 < 0 → (C_atom9_18 s1 Q)) ∧ (¬ (l2 < 0) → ((l2 ≤ 12 → ((8 < l2 → ((¬ (l2 = 9) → ((¬ (l2 = 10) → (C_rootsOf4 l1 s1 (fun z11 s10 => ((¬ (l2 = 11) → (C_distinctRoots0 l1 s10 (fun z14 s13 => (C_atom9_116 (w32 (z14 - z11)) s13 Q)))) ∧ (l2 = 11 → (C_atom9_116 z11 s10 Q)))))) ∧ (l2 = 10 → (caI s1 81 l1 → (Q (cga s1 81 l1) s1))))) ∧ (l2 = 9 → (∀ v217 : Int, v217 = (if 0 ≤ (cgf s1 (61 + 2 * (l1).toNat) 0) then (cgf s1 (61 + 2 * (l1).toNat) 0) else (-2)) → (Q v217 s1))))) ∧ (¬ (8 < l2) → (caJ s1 ((61 + 2 * (l1).toNat) + 1) l2 → (Q (w32 (cga s1 ((61 + 2 * (l1).toNat) + 1) l2)) s1))))) ∧ (¬ (l2 ≤ 12) → (C_atom9_18 s1 Q)))))))))
set_option maxRecDepth 16384 in
theorem c_atom9 (L : Nat) (ys : Nat → Int32) (d : Nat) (s : im_S) (hv : jI s) (l1 : Int) (l1r : iR l1) (l2 : Int) (l2r : iR l2) (Q : Int → im_S → Prop) (hW : C_atom9 l1 l2 s Q) : pcI L ys 0 d 206 [(2, ((0 : Nat) : Int)), (0, l1), (0, l2)] s (fun z9 s9 => jI s9 ∧ iR z9 ∧ Q z9 s9) := by
  intro res hres
  refine pq_start (M := rm_p_X9_atom) (Q := (fun r : im_Re => ∃ z, r.1 = some (0, z) ∧ (jI r.2 ∧ iR z ∧ Q z r.2))) om_X9_atom (fun d N => ?_) res hres
  refine pq_w [(0, (2, ((0 : Nat) : Int))), (1, (0, l1)), (2, (0, l2))] ⟨rfl, rfl, rfl, trivial⟩ ?_
  have J116 : ∀ N116 : Nat, N116 ≤ N → ∀ (k0 : Int) (k0r : iR k0) (s : im_S) (hv : jI s), C_atom9_116 k0 s Q → pq L ys d N116 rm_p_X9_atom (116, [], [(0, k0)], s) (fun r : im_Re => ∃ z, r.1 = some (0, z) ∧ (jI r.2 ∧ iR z ∧ Q z r.2)) := by
    intro N116 hN116 k0 k0r s hv hW
    unfold C_atom9_116 at hW
    exact pq_iret rfl ⟨_, rfl, hv, k0r, hW⟩
  have J18 : ∀ N18 : Nat, N18 ≤ N → ∀ (s : im_S) (hv : jI s), C_atom9_18 s Q → pq L ys d N18 rm_p_X9_atom (18, [], [], s) (fun r : im_Re => ∃ z, r.1 = some (0, z) ∧ (jI r.2 ∧ iR z ∧ Q z r.2)) := by
    intro N18 hN18 s hv hW
    unfold C_atom9_18 at hW
    refine pq_k (pc' := 20) (v := (0, (-2000000000))) rfl rfl rfl (fun _ => rfl) ?_
    exact pq_iret rfl ⟨_, rfl, hv, (⟨by decide, by decide⟩ : iR (-2000000000)), hW⟩
  unfold C_atom9 at hW
  refine pq_l (pc' := 1) rfl rfl rfl rfl rfl ?_
  refine pq_l (pc' := 2) rfl rfl rfl rfl rfl ?_
  refine pq_cVI (pc' := 5) rfl rfl rfl rfl rfl (c_isAtom9 L ys d s hv l1 l1r _ hW) (fun z2 s1 hr => ?_)
  obtain ⟨s1v, z2r, hW⟩ := hr
  refine pq_z_eq (pt := 18) (pc' := 8) rfl rfl rfl (fun c3 => ?_) (fun c3 => ?_)
  · have hW := hW.1 c3
    refine pq_w [] trivial ?_
    exact J18 N (by omega) s1 s1v hW
  · have hW := hW.2 c3
    refine pq_l (pc' := 9) rfl rfl rfl rfl rfl ?_
    refine pq_z_lt (pt := 18) (pc' := 12) rfl rfl rfl (fun c4 => ?_) (fun c4 => ?_)
    · have hW := hW.1 c4
      refine pq_w [] trivial ?_
      exact J18 N (by omega) s1 s1v hW
    · have hW := hW.2 c4
      refine pq_l (pc' := 13) rfl rfl rfl rfl rfl ?_
      refine pq_k (pc' := 15) (v := (0, 12)) rfl rfl rfl (fun _ => rfl) ?_
      refine pq_c_le (pt := 21) (pc' := 18) rfl rfl rfl (fun c5 => ?_) (fun c5 => ?_)
      · have hW := hW.1 c5
        refine pq_l (pc' := 22) rfl rfl rfl rfl rfl ?_
        refine pq_gr (pc' := 25) (c := 2) (v := 2) rfl rfl rfl rfl rfl rfl s1v ?_
        refine pq_gr (pc' := 28) (c := 60) (v := 60) rfl rfl rfl rfl rfl rfl s1v ?_
        refine pq_l (pc' := 29) rfl rfl rfl rfl rfl ?_
        refine pq_aa (pc' := 30) (b := 61) (k := 2) (n := 10) (m := 10) rfl rfl rfl rfl rfl s1v (fun r6a r6b => ?_)
        refine pq_s (pc' := 31) rfl rfl rfl rfl rfl ?_
        refine pq_l (pc' := 32) rfl rfl rfl rfl rfl ?_
        refine pq_k (pc' := 34) (v := (0, 8)) rfl rfl rfl (fun _ => rfl) ?_
        refine pq_c_gt (pt := 45) (pc' := 37) rfl rfl rfl (fun c7 => ?_) (fun c7 => ?_)
        · have hW := hW.1 c7
          refine pq_l (pc' := 46) rfl rfl rfl rfl rfl ?_
          refine pq_k (pc' := 48) (v := (0, 9)) rfl rfl rfl (fun _ => rfl) ?_
          refine pq_c_ne (pt := 68) (pc' := 51) rfl rfl rfl (fun c8 => ?_) (fun c8 => ?_)
          · have hW := hW.1 c8
            refine pq_l (pc' := 69) rfl rfl rfl rfl rfl ?_
            refine pq_k (pc' := 71) (v := (0, 10)) rfl rfl rfl (fun _ => rfl) ?_
            refine pq_c_ne (pt := 84) (pc' := 74) rfl rfl rfl (fun c9 => ?_) (fun c9 => ?_)
            · have hW := hW.1 c9
              refine pq_l (pc' := 85) rfl rfl rfl rfl rfl ?_
              refine pq_gr (pc' := 88) (c := 1) (v := 1) rfl rfl rfl rfl rfl rfl s1v ?_
              refine pq_l (pc' := 89) rfl rfl rfl rfl rfl ?_
              refine pq_cVI (pc' := 92) rfl rfl rfl rfl rfl (c_rootsOf4 L ys d s1 s1v l1 l1r _ hW) (fun z11 s10 hr => ?_)
              obtain ⟨s10v, z11r, hW⟩ := hr
              refine pq_s (pc' := 94) rfl rfl rfl rfl rfl ?_
              refine pq_l (pc' := 95) rfl rfl rfl rfl rfl ?_
              refine pq_k (pc' := 97) (v := (0, 11)) rfl rfl rfl (fun _ => rfl) ?_
              refine pq_c_ne (pt := 105) (pc' := 100) rfl rfl rfl (fun c12 => ?_) (fun c12 => ?_)
              · have hW := hW.1 c12
                refine pq_l (pc' := 106) rfl rfl rfl rfl rfl ?_
                refine pq_gr (pc' := 109) (c := 84) (v := 84) rfl rfl rfl rfl rfl rfl s10v ?_
                refine pq_l (pc' := 110) rfl rfl rfl rfl rfl ?_
                refine pq_cVI (pc' := 113) rfl rfl rfl rfl rfl (c_distinctRoots0 L ys d s10 s10v l1 l1r _ hW) (fun z14 s13 hr => ?_)
                obtain ⟨s13v, z14r, hW⟩ := hr
                refine pq_l (pc' := 115) rfl rfl rfl rfl rfl ?_
                refine pq_sub (pc' := 116) rfl rfl ?_
                refine pq_w [] trivial ?_
                exact J116 N (by omega) (w32 (z14 - z11)) (w32_r _) s13 s13v hW
              · have hW := hW.2 c12
                refine pq_l (pc' := 102) rfl rfl rfl rfl rfl ?_
                refine pq_goto (pc' := 116) rfl rfl ?_
                refine pq_w [] trivial ?_
                exact J116 N (by omega) z11 z11r s10 s10v hW
            · have hW := hW.2 c9
              refine pq_l (pc' := 75) rfl rfl rfl rfl rfl ?_
              refine pq_gr (pc' := 78) (c := 2) (v := 2) rfl rfl rfl rfl rfl rfl s1v ?_
              refine pq_gr (pc' := 81) (c := 81) (v := 81) rfl rfl rfl rfl rfl rfl s1v ?_
              refine pq_l (pc' := 82) rfl rfl rfl rfl rfl ?_
              refine pq_ia (pc' := 83) rfl rfl (fun r15a r15b r15 => ?_)
              have hW := hW ⟨⟨r15a, r15b⟩, r15⟩
              exact pq_iret rfl ⟨_, rfl, s1v, r15, hW⟩
          · have hW := hW.2 c8
            refine pq_l (pc' := 52) rfl rfl rfl rfl rfl ?_
            refine pq_gi (pc' := 55) rfl rfl rfl rfl rfl (fun r16 => ?_)
            have J218 : ∀ v217 : Int, iR v217 → ((Q v217 s1)) → pq L ys d N rm_p_X9_atom (67, [], [(0, v217)], s1) (fun r : im_Re => ∃ z, r.1 = some (0, z) ∧ (jI r.2 ∧ iR z ∧ Q z r.2)) := by
              intro v217 v217r hW
              exact pq_iret rfl ⟨_, rfl, s1v, v217r, hW⟩
            refine pq_z_ge (pt := 63) (pc' := 58) rfl rfl rfl (fun c17 => ?_) (fun c17 => ?_)
            · refine pq_l (pc' := 64) rfl rfl rfl rfl rfl ?_
              refine pq_gi (pc' := 67) rfl rfl rfl rfl rfl (fun r18 => ?_)
              refine pq_w [] trivial ?_
              exact J218 (cgf s1 (61 + 2 * (l1).toNat) 0) r18 (hW _ (by rw [if_pos c17]))
            · refine pq_k (pc' := 60) (v := (0, (-2))) rfl rfl rfl (fun _ => rfl) ?_
              refine pq_goto (pc' := 67) rfl rfl ?_
              refine pq_w [] trivial ?_
              exact J218 (-2) (⟨by decide, by decide⟩ : iR (-2)) (hW _ (by rw [if_neg (fun z => c17 z)]))
        · have hW := hW.2 c7
          refine pq_l (pc' := 38) rfl rfl rfl rfl rfl ?_
          refine pq_gr (pc' := 41) (c := ((61 + 2 * (l1).toNat) + 1)) (v := 0) rfl rfl rfl rfl rfl rfl s1v ?_
          refine pq_l (pc' := 42) rfl rfl rfl rfl rfl ?_
          refine pq_la (pc' := 43) rfl rfl (fun r219a r219b r219 => ?_)
          have hW := hW ⟨⟨r219a, r219b⟩, r219⟩
          refine pq_l2i (pc' := 44) rfl rfl ?_
          exact pq_iret rfl ⟨_, rfl, s1v, (w32_r _), hW⟩
      · have hW := hW.2 c5
        refine pq_w [] trivial ?_
        exact J18 N (by omega) s1 s1v hW
def C_isCell9 (l1 : Int) (s : im_S) (Q : Int → im_S → Prop) : Prop := (∀ v202 : Int, v202 = (if (cgf s 0 3) = 0 then 0 else (if l1 < 0 then 0 else (if (w32 (2 * (cgf s 1 4))) < l1 then 0 else 1))) → (Q v202 s))
set_option maxRecDepth 16384 in
theorem c_isCell9 (L : Nat) (ys : Nat → Int32) (d : Nat) (s : im_S) (hv : jI s) (l1 : Int) (l1r : iR l1) (Q : Int → im_S → Prop) (hW : C_isCell9 l1 s Q) : pcI L ys 0 d 215 [(2, ((0 : Nat) : Int)), (0, l1)] s (fun z9 s9 => jI s9 ∧ iR z9 ∧ Q z9 s9) := by
  intro res hres
  refine pq_start (M := rm_p_X9_isCell) (Q := (fun r : im_Re => ∃ z, r.1 = some (0, z) ∧ (jI r.2 ∧ iR z ∧ Q z r.2))) om_X9_isCell (fun d N => ?_) res hres
  refine pq_w [(0, (2, ((0 : Nat) : Int))), (1, (0, l1))] ⟨rfl, rfl, trivial⟩ ?_
  unfold C_isCell9 at hW
  refine pq_l (pc' := 1) rfl rfl rfl rfl rfl ?_
  refine pq_gi (pc' := 4) rfl rfl rfl rfl rfl (fun r1 => ?_)
  have J203 : ∀ v202 : Int, iR v202 → ((Q v202 s)) → pq L ys d N rm_p_X9_isCell (29, [], [(0, v202)], s) (fun r : im_Re => ∃ z, r.1 = some (0, z) ∧ (jI r.2 ∧ iR z ∧ Q z r.2)) := by
    intro v202 v202r hW
    exact pq_iret rfl ⟨_, rfl, hv, v202r, hW⟩
  refine pq_z_eq (pt := 28) (pc' := 7) rfl rfl rfl (fun c2 => ?_) (fun c2 => ?_)
  · refine pq_k (pc' := 29) (v := (0, 0)) rfl rfl rfl (fun _ => rfl) ?_
    refine pq_w [] trivial ?_
    exact J203 0 (⟨by decide, by decide⟩ : iR 0) (hW _ (by rw [if_pos c2]))
  · refine pq_l (pc' := 8) rfl rfl rfl rfl rfl ?_
    refine pq_z_lt (pt := 28) (pc' := 11) rfl rfl rfl (fun c3 => ?_) (fun c3 => ?_)
    · refine pq_k (pc' := 29) (v := (0, 0)) rfl rfl rfl (fun _ => rfl) ?_
      refine pq_w [] trivial ?_
      exact J203 0 (⟨by decide, by decide⟩ : iR 0) (hW _ (by rw [if_neg (fun z => c2 z), if_pos c3]))
    · refine pq_l (pc' := 12) rfl rfl rfl rfl rfl ?_
      refine pq_k (pc' := 13) (v := (0, 2)) rfl rfl rfl (fun _ => rfl) ?_
      refine pq_l (pc' := 14) rfl rfl rfl rfl rfl ?_
      refine pq_gr (pc' := 17) (c := 1) (v := 1) rfl rfl rfl rfl rfl rfl hv ?_
      refine pq_gi (pc' := 20) rfl rfl rfl rfl rfl (fun r4 => ?_)
      refine pq_mul (pc' := 21) rfl rfl ?_
      refine pq_c_gt (pt := 28) (pc' := 24) rfl rfl rfl (fun c5 => ?_) (fun c5 => ?_)
      · refine pq_k (pc' := 29) (v := (0, 0)) rfl rfl rfl (fun _ => rfl) ?_
        refine pq_w [] trivial ?_
        exact J203 0 (⟨by decide, by decide⟩ : iR 0) (hW _ (by rw [if_neg (fun z => c2 z), if_neg (fun z => c3 z), if_pos c5]))
      · refine pq_k (pc' := 25) (v := (0, 1)) rfl rfl rfl (fun _ => rfl) ?_
        refine pq_goto (pc' := 29) rfl rfl ?_
        refine pq_w [] trivial ?_
        exact J203 1 (⟨by decide, by decide⟩ : iR 1) (hW _ (by rw [if_neg (fun z => c2 z), if_neg (fun z => c3 z), if_neg (fun z => c5 z)]))
def C_holds9 (l1 : Int) (s : im_S) (Q : Int → im_S → Prop) : Prop := (C_isCell9 l1 s (fun z2 s1 => ((¬ (z2 = 0) → (∀ v205 : Int, v205 = (if (cga s1 579 l1) = 0 then 0 else 1) → (Q v205 s1))) ∧ (z2 = 0 → (Q (-1) s1)))))
set_option maxRecDepth 16384 in
theorem c_holds9 (L : Nat) (ys : Nat → Int32) (d : Nat) (s : im_S) (hv : jI s) (l1 : Int) (l1r : iR l1) (Q : Int → im_S → Prop) (hW : C_holds9 l1 s Q) : pcI L ys 0 d 212 [(2, ((0 : Nat) : Int)), (0, l1)] s (fun z9 s9 => jI s9 ∧ iR z9 ∧ Q z9 s9) := by
  intro res hres
  refine pq_start (M := rm_p_X9_holds) (Q := (fun r : im_Re => ∃ z, r.1 = some (0, z) ∧ (jI r.2 ∧ iR z ∧ Q z r.2))) om_X9_holds (fun d N => ?_) res hres
  refine pq_w [(0, (2, ((0 : Nat) : Int))), (1, (0, l1))] ⟨rfl, rfl, trivial⟩ ?_
  unfold C_holds9 at hW
  refine pq_l (pc' := 1) rfl rfl rfl rfl rfl ?_
  refine pq_l (pc' := 2) rfl rfl rfl rfl rfl ?_
  refine pq_cVI (pc' := 5) rfl rfl rfl rfl rfl (c_isCell9 L ys d s hv l1 l1r _ hW) (fun z2 s1 hr => ?_)
  obtain ⟨s1v, z2r, hW⟩ := hr
  refine pq_z_ne (pt := 10) (pc' := 8) rfl rfl rfl (fun c3 => ?_) (fun c3 => ?_)
  · have hW := hW.1 c3
    refine pq_l (pc' := 11) rfl rfl rfl rfl rfl ?_
    refine pq_gr (pc' := 14) (c := 1) (v := 1) rfl rfl rfl rfl rfl rfl s1v ?_
    refine pq_gr (pc' := 17) (c := 579) (v := 579) rfl rfl rfl rfl rfl rfl s1v ?_
    refine pq_l (pc' := 18) rfl rfl rfl rfl rfl ?_
    refine pq_ba (pc' := 19) rfl rfl (fun r4a r4 => ?_)
    have J206 : ∀ v205 : Int, iR v205 → ((Q v205 s1)) → pq L ys d N rm_p_X9_holds (27, [], [(0, v205)], s1) (fun r : im_Re => ∃ z, r.1 = some (0, z) ∧ (jI r.2 ∧ iR z ∧ Q z r.2)) := by
      intro v205 v205r hW
      exact pq_iret rfl ⟨_, rfl, s1v, v205r, hW⟩
    refine pq_z_eq (pt := 26) (pc' := 22) rfl rfl rfl (fun c5 => ?_) (fun c5 => ?_)
    · refine pq_k (pc' := 27) (v := (0, 0)) rfl rfl rfl (fun _ => rfl) ?_
      refine pq_w [] trivial ?_
      exact J206 0 (⟨by decide, by decide⟩ : iR 0) (hW _ (by rw [if_pos c5]))
    · refine pq_k (pc' := 23) (v := (0, 1)) rfl rfl rfl (fun _ => rfl) ?_
      refine pq_goto (pc' := 27) rfl rfl ?_
      refine pq_w [] trivial ?_
      exact J206 1 (⟨by decide, by decide⟩ : iR 1) (hW _ (by rw [if_neg (fun z => c5 z)]))
  · have hW := hW.2 c3
    refine pq_k (pc' := 9) (v := (0, (-1))) rfl rfl rfl (fun _ => rfl) ?_
    exact pq_iret rfl ⟨_, rfl, s1v, (⟨by decide, by decide⟩ : iR (-1)), hW⟩
def C_sign9_16 (s : im_S) (Q : Int → im_S → Prop) : Prop := (Q (-2) s)
def C_sign9 (l1 : Int) (l2 : Int) (s : im_S) (Q : Int → im_S → Prop) : Prop := (C_isCell9 l1 s (fun z2 s1 => ((z2 = 0 → (C_sign9_16 s1 Q)) ∧ (¬ (z2 = 0) → (C_isAtom9 l2 s1 (fun z5 s4 => ((¬ (z5 = 0) → (Q (cga s4 578 (w32 ((w32 (l1 * 10)) + l2))) s4)) ∧ (z5 = 0 → (C_sign9_16 s4 Q)))))))))
set_option maxRecDepth 16384 in
theorem c_sign9 (L : Nat) (ys : Nat → Int32) (d : Nat) (s : im_S) (hv : jI s) (l1 : Int) (l1r : iR l1) (l2 : Int) (l2r : iR l2) (Q : Int → im_S → Prop) (hW : C_sign9 l1 l2 s Q) : pcI L ys 0 d 222 [(2, ((0 : Nat) : Int)), (0, l1), (0, l2)] s (fun z9 s9 => jI s9 ∧ iR z9 ∧ Q z9 s9) := by
  intro res hres
  refine pq_start (M := rm_p_X9_sign) (Q := (fun r : im_Re => ∃ z, r.1 = some (0, z) ∧ (jI r.2 ∧ iR z ∧ Q z r.2))) om_X9_sign (fun d N => ?_) res hres
  refine pq_w [(0, (2, ((0 : Nat) : Int))), (1, (0, l1)), (2, (0, l2))] ⟨rfl, rfl, rfl, trivial⟩ ?_
  have J16 : ∀ N16 : Nat, N16 ≤ N → ∀ (s : im_S) (hv : jI s), C_sign9_16 s Q → pq L ys d N16 rm_p_X9_sign (16, [], [], s) (fun r : im_Re => ∃ z, r.1 = some (0, z) ∧ (jI r.2 ∧ iR z ∧ Q z r.2)) := by
    intro N16 hN16 s hv hW
    unfold C_sign9_16 at hW
    refine pq_k (pc' := 18) (v := (0, (-2))) rfl rfl rfl (fun _ => rfl) ?_
    exact pq_iret rfl ⟨_, rfl, hv, (⟨by decide, by decide⟩ : iR (-2)), hW⟩
  unfold C_sign9 at hW
  refine pq_l (pc' := 1) rfl rfl rfl rfl rfl ?_
  refine pq_l (pc' := 2) rfl rfl rfl rfl rfl ?_
  refine pq_cVI (pc' := 5) rfl rfl rfl rfl rfl (c_isCell9 L ys d s hv l1 l1r _ hW) (fun z2 s1 hr => ?_)
  obtain ⟨s1v, z2r, hW⟩ := hr
  refine pq_z_eq (pt := 16) (pc' := 8) rfl rfl rfl (fun c3 => ?_) (fun c3 => ?_)
  · have hW := hW.1 c3
    refine pq_w [] trivial ?_
    exact J16 N (by omega) s1 s1v hW
  · have hW := hW.2 c3
    refine pq_l (pc' := 9) rfl rfl rfl rfl rfl ?_
    refine pq_l (pc' := 10) rfl rfl rfl rfl rfl ?_
    refine pq_cVI (pc' := 13) rfl rfl rfl rfl rfl (c_isAtom9 L ys d s1 s1v l2 l2r _ hW) (fun z5 s4 hr => ?_)
    obtain ⟨s4v, z5r, hW⟩ := hr
    refine pq_z_ne (pt := 19) (pc' := 16) rfl rfl rfl (fun c6 => ?_) (fun c6 => ?_)
    · have hW := hW.1 c6
      refine pq_l (pc' := 20) rfl rfl rfl rfl rfl ?_
      refine pq_gr (pc' := 23) (c := 1) (v := 1) rfl rfl rfl rfl rfl rfl s4v ?_
      refine pq_gr (pc' := 26) (c := 578) (v := 578) rfl rfl rfl rfl rfl rfl s4v ?_
      refine pq_l (pc' := 27) rfl rfl rfl rfl rfl ?_
      refine pq_k (pc' := 29) (v := (0, 10)) rfl rfl rfl (fun _ => rfl) ?_
      refine pq_mul (pc' := 30) rfl rfl ?_
      refine pq_l (pc' := 31) rfl rfl rfl rfl rfl ?_
      refine pq_add (pc' := 32) rfl rfl ?_
      refine pq_ba (pc' := 33) rfl rfl (fun r7a r7 => ?_)
      exact pq_iret rfl ⟨_, rfl, s4v, r7, hW⟩
    · have hW := hW.2 c6
      refine pq_w [] trivial ?_
      exact J16 N (by omega) s4 s4v hW
def C_isRoot9 (l1 : Int) (s : im_S) (Q : Int → im_S → Prop) : Prop := (∀ v202 : Int, v202 = (if (cgf s 0 3) = 0 then 0 else (if l1 < 0 then 0 else (if (cgf s 1 4) ≤ l1 then 0 else 1))) → (Q v202 s))
set_option maxRecDepth 16384 in
theorem c_isRoot9 (L : Nat) (ys : Nat → Int32) (d : Nat) (s : im_S) (hv : jI s) (l1 : Int) (l1r : iR l1) (Q : Int → im_S → Prop) (hW : C_isRoot9 l1 s Q) : pcI L ys 0 d 217 [(2, ((0 : Nat) : Int)), (0, l1)] s (fun z9 s9 => jI s9 ∧ iR z9 ∧ Q z9 s9) := by
  intro res hres
  refine pq_start (M := rm_p_X9_isRoot) (Q := (fun r : im_Re => ∃ z, r.1 = some (0, z) ∧ (jI r.2 ∧ iR z ∧ Q z r.2))) om_X9_isRoot (fun d N => ?_) res hres
  refine pq_w [(0, (2, ((0 : Nat) : Int))), (1, (0, l1))] ⟨rfl, rfl, trivial⟩ ?_
  unfold C_isRoot9 at hW
  refine pq_l (pc' := 1) rfl rfl rfl rfl rfl ?_
  refine pq_gi (pc' := 4) rfl rfl rfl rfl rfl (fun r1 => ?_)
  have J203 : ∀ v202 : Int, iR v202 → ((Q v202 s)) → pq L ys d N rm_p_X9_isRoot (27, [], [(0, v202)], s) (fun r : im_Re => ∃ z, r.1 = some (0, z) ∧ (jI r.2 ∧ iR z ∧ Q z r.2)) := by
    intro v202 v202r hW
    exact pq_iret rfl ⟨_, rfl, hv, v202r, hW⟩
  refine pq_z_eq (pt := 26) (pc' := 7) rfl rfl rfl (fun c2 => ?_) (fun c2 => ?_)
  · refine pq_k (pc' := 27) (v := (0, 0)) rfl rfl rfl (fun _ => rfl) ?_
    refine pq_w [] trivial ?_
    exact J203 0 (⟨by decide, by decide⟩ : iR 0) (hW _ (by rw [if_pos c2]))
  · refine pq_l (pc' := 8) rfl rfl rfl rfl rfl ?_
    refine pq_z_lt (pt := 26) (pc' := 11) rfl rfl rfl (fun c3 => ?_) (fun c3 => ?_)
    · refine pq_k (pc' := 27) (v := (0, 0)) rfl rfl rfl (fun _ => rfl) ?_
      refine pq_w [] trivial ?_
      exact J203 0 (⟨by decide, by decide⟩ : iR 0) (hW _ (by rw [if_neg (fun z => c2 z), if_pos c3]))
    · refine pq_l (pc' := 12) rfl rfl rfl rfl rfl ?_
      refine pq_l (pc' := 13) rfl rfl rfl rfl rfl ?_
      refine pq_gr (pc' := 16) (c := 1) (v := 1) rfl rfl rfl rfl rfl rfl hv ?_
      refine pq_gi (pc' := 19) rfl rfl rfl rfl rfl (fun r4 => ?_)
      refine pq_c_ge (pt := 26) (pc' := 22) rfl rfl rfl (fun c5 => ?_) (fun c5 => ?_)
      · refine pq_k (pc' := 27) (v := (0, 0)) rfl rfl rfl (fun _ => rfl) ?_
        refine pq_w [] trivial ?_
        exact J203 0 (⟨by decide, by decide⟩ : iR 0) (hW _ (by rw [if_neg (fun z => c2 z), if_neg (fun z => c3 z), if_pos c5]))
      · refine pq_k (pc' := 23) (v := (0, 1)) rfl rfl rfl (fun _ => rfl) ?_
        refine pq_goto (pc' := 27) rfl rfl ?_
        refine pq_w [] trivial ?_
        exact J203 1 (⟨by decide, by decide⟩ : iR 1) (hW _ (by rw [if_neg (fun z => c2 z), if_neg (fun z => c3 z), if_neg (fun z => c5 z)]))
def C_root9_27 (K27 : Int × Int × im_S → Prop) (l1 : Int) (l2 : Int) (l3 : Int) (l5 : Int) (s : im_S) (Q : Int → im_S → Prop) : Prop := ((l2 ≤ l5 → (C_rootAt4 l1 s (fun z3 s2 => (C_scaledFloor3 z3 l3 s2 (fun z5 s4 => (Q z5 s4)))))) ∧ (¬ (l2 ≤ l5) → (K27 ((w64 (l3 * 10)), (w32 (l5 + 1)), s))))
def C_root9_18 (s : im_S) (Q : Int → im_S → Prop) : Prop := (Q (-9000000000000000000) s)
def C_root9 (l1 : Int) (l2 : Int) (s : im_S) (Q : Int → im_S → Prop) : Prop := (C_isRoot9 l1 s (fun z8 s7 => ((z8 = 0 → (C_root9_18 s7 Q)) ∧ (¬ (z8 = 0) → ((l2 < 0 → (C_root9_18 s7 Q)) ∧ (¬ (l2 < 0) → ((l2 ≤ 8 → (ploop (fun (K : Int × Int × im_S → Prop) (a : Int × Int × im_S) => C_root9_27 K l1 l2 a.1 a.2.1 a.2.2 Q) (1, 0, s7))) ∧ (¬ (l2 ≤ 8) → (C_root9_18 s7 Q)))))))))
set_option maxRecDepth 16384 in
theorem c_root9 (L : Nat) (ys : Nat → Int32) (d : Nat) (s : im_S) (hv : jI s) (l1 : Int) (l1r : iR l1) (l2 : Int) (l2r : iR l2) (Q : Int → im_S → Prop) (hW : C_root9 l1 l2 s Q) : pcI L ys 1 d 221 [(2, ((0 : Nat) : Int)), (0, l1), (0, l2)] s (fun z9 s9 => jI s9 ∧ lR z9 ∧ Q z9 s9) := by
  intro res hres
  refine pq_start (M := rm_p_X9_root) (Q := (fun r : im_Re => ∃ z, r.1 = some (1, z) ∧ (jI r.2 ∧ lR z ∧ Q z r.2))) om_X9_root (fun d N => ?_) res hres
  refine pq_w [(0, (2, ((0 : Nat) : Int))), (1, (0, l1)), (2, (0, l2))] ⟨rfl, rfl, rfl, trivial⟩ ?_
  have J27 : ∀ (l1 : Int) (l1r : iR l1) (l2 : Int) (l2r : iR l2) (I27 : Int × Int × im_S → Prop) (hB27 : ∀ a : Int × Int × im_S, I27 a → C_root9_27 I27 l1 l2 a.1 a.2.1 a.2.2 Q), ∀ N27 : Nat, N27 ≤ N → ∀ (l3 : Int) (l3r : lR l3) (l5 : Int) (l5r : iR l5) (s : im_S) (hv : jI s), I27 (l3, l5, s) → pq L ys d N27 rm_p_X9_root (27, [(0, (2, ((0 : Nat) : Int))), (1, (0, l1)), (2, (0, l2)), (3, (1, l3)), (5, (0, l5))], [], s) (fun r : im_Re => ∃ z, r.1 = some (1, z) ∧ (jI r.2 ∧ lR z ∧ Q z r.2)) := by
    intro l1 l1r l2 l2r I27 hB27 N27
    induction N27 using Nat.strongRecOn with
    | _ N27 ih27 =>
      intro hN27 l3 l3r l5 l5r s hv hI
      have hW : C_root9_27 I27 l1 l2 l3 l5 s Q := hB27 (l3, l5, s) hI
      unfold C_root9_27 at hW
      refine pq_l (pc' := 29) rfl rfl rfl rfl rfl ?_
      refine pq_l (pc' := 30) rfl rfl rfl rfl rfl ?_
      refine pq_c_ge (pt := 45) (pc' := 33) rfl rfl rfl (fun c1 => ?_) (fun c1 => ?_)
      · have hW := hW.1 c1
        refine pq_l (pc' := 46) rfl rfl rfl rfl rfl ?_
        refine pq_gr (pc' := 49) (c := 83) (v := 83) rfl rfl rfl rfl rfl rfl hv ?_
        refine pq_l (pc' := 50) rfl rfl rfl rfl rfl ?_
        refine pq_gr (pc' := 53) (c := 1) (v := 1) rfl rfl rfl rfl rfl rfl hv ?_
        refine pq_l (pc' := 54) rfl rfl rfl rfl rfl ?_
        refine pq_cVR (pc' := 57) rfl rfl rfl rfl rfl (c_rootAt4 L ys d s hv l1 l1r _ hW) (fun z3 s2 hr => ?_)
        obtain ⟨s2v, z3n, hW⟩ := hr
        refine pq_l (pc' := 58) rfl rfl rfl rfl rfl ?_
        refine pq_cVI (pc' := 61) rfl rfl rfl rfl rfl (c_scaledFloor3 L ys d s2 s2v z3 l3 l3r _ hW) (fun z5 s4 hr => ?_)
        obtain ⟨s4v, z5r, hW⟩ := hr
        exact pq_lret rfl ⟨_, rfl, s4v, z5r, hW⟩
      · have hW := hW.2 c1
        refine pq_l (pc' := 34) rfl rfl rfl rfl rfl ?_
        refine pq_k (pc' := 37) (v := (1, 10)) rfl rfl rfl (fun _ => rfl) ?_
        refine pq_lmul (pc' := 38) rfl rfl ?_
        refine pq_s2 (pc' := 39) rfl rfl rfl rfl rfl ?_
        refine pq_inc (pc' := 42) rfl rfl rfl rfl ?_
        refine pq_gotoT (pc' := 27) rfl rfl (fun m6 m6l => ?_)
        refine pq_w [(0, (2, ((0 : Nat) : Int))), (1, (0, l1)), (2, (0, l2)), (3, (1, (w64 (l3 * 10)))), (5, (0, (w32 (l5 + 1))))] ⟨rfl, rfl, rfl, rfl, rfl, trivial⟩ ?_
        exact ih27 m6 (by omega) (by omega) (w64 (l3 * 10)) (w64_r _) (w32 (l5 + 1)) (w32_r _) s hv hW
  have J18 : ∀ N18 : Nat, N18 ≤ N → ∀ (s : im_S) (hv : jI s), C_root9_18 s Q → pq L ys d N18 rm_p_X9_root (18, [], [], s) (fun r : im_Re => ∃ z, r.1 = some (1, z) ∧ (jI r.2 ∧ lR z ∧ Q z r.2)) := by
    intro N18 hN18 s hv hW
    unfold C_root9_18 at hW
    refine pq_k (pc' := 21) (v := (1, (-9000000000000000000))) rfl rfl rfl (fun _ => rfl) ?_
    exact pq_lret rfl ⟨_, rfl, hv, (⟨by decide, by decide⟩ : lR (-9000000000000000000)), hW⟩
  unfold C_root9 at hW
  refine pq_l (pc' := 1) rfl rfl rfl rfl rfl ?_
  refine pq_l (pc' := 2) rfl rfl rfl rfl rfl ?_
  refine pq_cVI (pc' := 5) rfl rfl rfl rfl rfl (c_isRoot9 L ys d s hv l1 l1r _ hW) (fun z8 s7 hr => ?_)
  obtain ⟨s7v, z8r, hW⟩ := hr
  refine pq_z_eq (pt := 18) (pc' := 8) rfl rfl rfl (fun c9 => ?_) (fun c9 => ?_)
  · have hW := hW.1 c9
    refine pq_w [] trivial ?_
    exact J18 N (by omega) s7 s7v hW
  · have hW := hW.2 c9
    refine pq_l (pc' := 9) rfl rfl rfl rfl rfl ?_
    refine pq_z_lt (pt := 18) (pc' := 12) rfl rfl rfl (fun c10 => ?_) (fun c10 => ?_)
    · have hW := hW.1 c10
      refine pq_w [] trivial ?_
      exact J18 N (by omega) s7 s7v hW
    · have hW := hW.2 c10
      refine pq_l (pc' := 13) rfl rfl rfl rfl rfl ?_
      refine pq_k (pc' := 15) (v := (0, 8)) rfl rfl rfl (fun _ => rfl) ?_
      refine pq_c_le (pt := 22) (pc' := 18) rfl rfl rfl (fun c11 => ?_) (fun c11 => ?_)
      · have hW := hW.1 c11
        refine pq_k (pc' := 23) (v := (1, 1)) rfl rfl rfl (fun _ => rfl) ?_
        refine pq_s2 (pc' := 24) rfl rfl rfl rfl rfl ?_
        refine pq_k (pc' := 25) (v := (0, 0)) rfl rfl rfl (fun _ => rfl) ?_
        refine pq_s (pc' := 27) rfl rfl rfl rfl rfl ?_
        refine pq_w [(0, (2, ((0 : Nat) : Int))), (1, (0, l1)), (2, (0, l2)), (3, (1, 1)), (5, (0, 0))] ⟨rfl, rfl, rfl, rfl, rfl, trivial⟩ ?_
        obtain ⟨I9, hI9, hB9⟩ := hW
        exact J27 l1 l1r l2 l2r I9 hB9 N (by omega) 1 (⟨by decide, by decide⟩ : lR 1) 0 (⟨by decide, by decide⟩ : iR 0) s7 s7v hI9
      · have hW := hW.2 c11
        refine pq_w [] trivial ?_
        exact J18 N (by omega) s7 s7v hW
def C_times9_16 (s : im_S) (Q : Int → im_S → Prop) : Prop := (Q (-1) s)
def C_times9 (l1 : Int) (l2 : Int) (s : im_S) (Q : Int → im_S → Prop) : Prop := (C_isRoot9 l1 s (fun z2 s1 => ((z2 = 0 → (C_times9_16 s1 Q)) ∧ (¬ (z2 = 0) → (C_isAtom9 l2 s1 (fun z5 s4 => ((¬ (z5 = 0) → ((0 ≤ (cgf s4 (61 + 2 * (l2).toNat) 0) → (C_rootAt4 l1 s4 (fun z11 s10 => (C_multiplicity0 (cgf s10 z11 0) l2 s10 (fun z14 s13 => (Q z14 s13)))))) ∧ (¬ (0 ≤ (cgf s4 (61 + 2 * (l2).toNat) 0)) → (Q (-2) s4)))) ∧ (z5 = 0 → (C_times9_16 s4 Q)))))))))
set_option maxRecDepth 16384 in
theorem c_times9 (L : Nat) (ys : Nat → Int32) (d : Nat) (s : im_S) (hv : jI s) (l1 : Int) (l1r : iR l1) (l2 : Int) (l2r : iR l2) (Q : Int → im_S → Prop) (hW : C_times9 l1 l2 s Q) : pcI L ys 0 d 225 [(2, ((0 : Nat) : Int)), (0, l1), (0, l2)] s (fun z9 s9 => jI s9 ∧ iR z9 ∧ Q z9 s9) := by
  intro res hres
  refine pq_start (M := rm_p_X9_times) (Q := (fun r : im_Re => ∃ z, r.1 = some (0, z) ∧ (jI r.2 ∧ iR z ∧ Q z r.2))) om_X9_times (fun d N => ?_) res hres
  refine pq_w [(0, (2, ((0 : Nat) : Int))), (1, (0, l1)), (2, (0, l2))] ⟨rfl, rfl, rfl, trivial⟩ ?_
  have J16 : ∀ N16 : Nat, N16 ≤ N → ∀ (s : im_S) (hv : jI s), C_times9_16 s Q → pq L ys d N16 rm_p_X9_times (16, [], [], s) (fun r : im_Re => ∃ z, r.1 = some (0, z) ∧ (jI r.2 ∧ iR z ∧ Q z r.2)) := by
    intro N16 hN16 s hv hW
    unfold C_times9_16 at hW
    refine pq_k (pc' := 17) (v := (0, (-1))) rfl rfl rfl (fun _ => rfl) ?_
    exact pq_iret rfl ⟨_, rfl, hv, (⟨by decide, by decide⟩ : iR (-1)), hW⟩
  unfold C_times9 at hW
  refine pq_l (pc' := 1) rfl rfl rfl rfl rfl ?_
  refine pq_l (pc' := 2) rfl rfl rfl rfl rfl ?_
  refine pq_cVI (pc' := 5) rfl rfl rfl rfl rfl (c_isRoot9 L ys d s hv l1 l1r _ hW) (fun z2 s1 hr => ?_)
  obtain ⟨s1v, z2r, hW⟩ := hr
  refine pq_z_eq (pt := 16) (pc' := 8) rfl rfl rfl (fun c3 => ?_) (fun c3 => ?_)
  · have hW := hW.1 c3
    refine pq_w [] trivial ?_
    exact J16 N (by omega) s1 s1v hW
  · have hW := hW.2 c3
    refine pq_l (pc' := 9) rfl rfl rfl rfl rfl ?_
    refine pq_l (pc' := 10) rfl rfl rfl rfl rfl ?_
    refine pq_cVI (pc' := 13) rfl rfl rfl rfl rfl (c_isAtom9 L ys d s1 s1v l2 l2r _ hW) (fun z5 s4 hr => ?_)
    obtain ⟨s4v, z5r, hW⟩ := hr
    refine pq_z_ne (pt := 18) (pc' := 16) rfl rfl rfl (fun c6 => ?_) (fun c6 => ?_)
    · have hW := hW.1 c6
      refine pq_l (pc' := 19) rfl rfl rfl rfl rfl ?_
      refine pq_gr (pc' := 22) (c := 2) (v := 2) rfl rfl rfl rfl rfl rfl s4v ?_
      refine pq_gr (pc' := 25) (c := 60) (v := 60) rfl rfl rfl rfl rfl rfl s4v ?_
      refine pq_l (pc' := 26) rfl rfl rfl rfl rfl ?_
      refine pq_aa (pc' := 27) (b := 61) (k := 2) (n := 10) (m := 10) rfl rfl rfl rfl rfl s4v (fun r7a r7b => ?_)
      refine pq_gi (pc' := 30) rfl rfl rfl rfl rfl (fun r8 => ?_)
      refine pq_z_ge (pt := 36) (pc' := 33) rfl rfl rfl (fun c9 => ?_) (fun c9 => ?_)
      · have hW := hW.1 c9
        refine pq_l (pc' := 37) rfl rfl rfl rfl rfl ?_
        refine pq_gr (pc' := 40) (c := 84) (v := 84) rfl rfl rfl rfl rfl rfl s4v ?_
        refine pq_l (pc' := 41) rfl rfl rfl rfl rfl ?_
        refine pq_gr (pc' := 44) (c := 1) (v := 1) rfl rfl rfl rfl rfl rfl s4v ?_
        refine pq_l (pc' := 45) rfl rfl rfl rfl rfl ?_
        refine pq_cVR (pc' := 48) rfl rfl rfl rfl rfl (c_rootAt4 L ys d s4 s4v l1 l1r _ hW) (fun z11 s10 hr => ?_)
        obtain ⟨s10v, z11n, hW⟩ := hr
        refine pq_gi (pc' := 51) rfl rfl rfl rfl rfl (fun r12 => ?_)
        refine pq_l (pc' := 52) rfl rfl rfl rfl rfl ?_
        refine pq_cVI (pc' := 55) rfl rfl rfl rfl rfl (c_multiplicity0 L ys d s10 s10v (cgf s10 z11 0) r12 l2 l2r _ hW) (fun z14 s13 hr => ?_)
        obtain ⟨s13v, z14r, hW⟩ := hr
        exact pq_iret rfl ⟨_, rfl, s13v, z14r, hW⟩
      · have hW := hW.2 c9
        refine pq_k (pc' := 35) (v := (0, (-2))) rfl rfl rfl (fun _ => rfl) ?_
        exact pq_iret rfl ⟨_, rfl, s4v, (⟨by decide, by decide⟩ : iR (-2)), hW⟩
    · have hW := hW.2 c6
      refine pq_w [] trivial ?_
      exact J16 N (by omega) s4 s4v hW
def C_exact9_17 (s : im_S) (Q : Int → im_S → Prop) : Prop := (Q (-9000000000000000000) s)
def C_exact9 (l1 : Int) (l2 : Int) (s : im_S) (Q : Int → im_S → Prop) : Prop := (C_isRoot9 l1 s (fun z2 s1 => ((z2 = 0 → (C_exact9_17 s1 Q)) ∧ (¬ (z2 = 0) → ((l2 < 0 → (C_exact9_17 s1 Q)) ∧ (¬ (l2 < 0) → ((l2 ≤ 1 → (C_rootAt4 l1 s1 (fun z7 s6 => ((¬ ((cgf s6 z7 1) = 0) → (∀ v210 : Int, v210 = (if ¬ (l2 = 0) then (cgf s6 z7 3) else (cgf s6 z7 2)) → (Q v210 s6))) ∧ ((cgf s6 z7 1) = 0 → (Q (-9000000000000000002) s6)))))) ∧ (¬ (l2 ≤ 1) → (C_exact9_17 s1 Q)))))))))
set_option maxRecDepth 16384 in
theorem c_exact9 (L : Nat) (ys : Nat → Int32) (d : Nat) (s : im_S) (hv : jI s) (l1 : Int) (l1r : iR l1) (l2 : Int) (l2r : iR l2) (Q : Int → im_S → Prop) (hW : C_exact9 l1 l2 s Q) : pcI L ys 1 d 210 [(2, ((0 : Nat) : Int)), (0, l1), (0, l2)] s (fun z9 s9 => jI s9 ∧ lR z9 ∧ Q z9 s9) := by
  intro res hres
  refine pq_start (M := rm_p_X9_exact) (Q := (fun r : im_Re => ∃ z, r.1 = some (1, z) ∧ (jI r.2 ∧ lR z ∧ Q z r.2))) om_X9_exact (fun d N => ?_) res hres
  refine pq_w [(0, (2, ((0 : Nat) : Int))), (1, (0, l1)), (2, (0, l2))] ⟨rfl, rfl, rfl, trivial⟩ ?_
  have J17 : ∀ N17 : Nat, N17 ≤ N → ∀ (s : im_S) (hv : jI s), C_exact9_17 s Q → pq L ys d N17 rm_p_X9_exact (17, [], [], s) (fun r : im_Re => ∃ z, r.1 = some (1, z) ∧ (jI r.2 ∧ lR z ∧ Q z r.2)) := by
    intro N17 hN17 s hv hW
    unfold C_exact9_17 at hW
    refine pq_k (pc' := 20) (v := (1, (-9000000000000000000))) rfl rfl rfl (fun _ => rfl) ?_
    exact pq_lret rfl ⟨_, rfl, hv, (⟨by decide, by decide⟩ : lR (-9000000000000000000)), hW⟩
  unfold C_exact9 at hW
  refine pq_l (pc' := 1) rfl rfl rfl rfl rfl ?_
  refine pq_l (pc' := 2) rfl rfl rfl rfl rfl ?_
  refine pq_cVI (pc' := 5) rfl rfl rfl rfl rfl (c_isRoot9 L ys d s hv l1 l1r _ hW) (fun z2 s1 hr => ?_)
  obtain ⟨s1v, z2r, hW⟩ := hr
  refine pq_z_eq (pt := 17) (pc' := 8) rfl rfl rfl (fun c3 => ?_) (fun c3 => ?_)
  · have hW := hW.1 c3
    refine pq_w [] trivial ?_
    exact J17 N (by omega) s1 s1v hW
  · have hW := hW.2 c3
    refine pq_l (pc' := 9) rfl rfl rfl rfl rfl ?_
    refine pq_z_lt (pt := 17) (pc' := 12) rfl rfl rfl (fun c4 => ?_) (fun c4 => ?_)
    · have hW := hW.1 c4
      refine pq_w [] trivial ?_
      exact J17 N (by omega) s1 s1v hW
    · have hW := hW.2 c4
      refine pq_l (pc' := 13) rfl rfl rfl rfl rfl ?_
      refine pq_k (pc' := 14) (v := (0, 1)) rfl rfl rfl (fun _ => rfl) ?_
      refine pq_c_le (pt := 21) (pc' := 17) rfl rfl rfl (fun c5 => ?_) (fun c5 => ?_)
      · have hW := hW.1 c5
        refine pq_l (pc' := 22) rfl rfl rfl rfl rfl ?_
        refine pq_gr (pc' := 25) (c := 1) (v := 1) rfl rfl rfl rfl rfl rfl s1v ?_
        refine pq_l (pc' := 26) rfl rfl rfl rfl rfl ?_
        refine pq_cVR (pc' := 29) rfl rfl rfl rfl rfl (c_rootAt4 L ys d s1 s1v l1 l1r _ hW) (fun z7 s6 hr => ?_)
        obtain ⟨s6v, z7n, hW⟩ := hr
        refine pq_s (pc' := 30) rfl rfl rfl rfl rfl ?_
        refine pq_l (pc' := 31) rfl rfl rfl rfl rfl ?_
        refine pq_gi (pc' := 34) rfl rfl rfl rfl rfl (fun r8 => ?_)
        refine pq_z_ne (pt := 41) (pc' := 37) rfl rfl rfl (fun c9 => ?_) (fun c9 => ?_)
        · have hW := hW.1 c9
          refine pq_l (pc' := 42) rfl rfl rfl rfl rfl ?_
          have J211 : ∀ v210 : Int, lR v210 → ((Q v210 s6)) → pq L ys d N rm_p_X9_exact (56, [], [(1, v210)], s6) (fun r : im_Re => ∃ z, r.1 = some (1, z) ∧ (jI r.2 ∧ lR z ∧ Q z r.2)) := by
            intro v210 v210r hW
            exact pq_lret rfl ⟨_, rfl, s6v, v210r, hW⟩
          refine pq_z_ne (pt := 52) (pc' := 45) rfl rfl rfl (fun c10 => ?_) (fun c10 => ?_)
          · refine pq_l (pc' := 53) rfl rfl rfl rfl rfl ?_
            refine pq_gj (pc' := 56) rfl rfl rfl rfl (fun r11 => ?_)
            refine pq_w [] trivial ?_
            exact J211 (cgf s6 z7 3) r11 (hW _ (by rw [if_pos c10]))
          · refine pq_l (pc' := 46) rfl rfl rfl rfl rfl ?_
            refine pq_gj (pc' := 49) rfl rfl rfl rfl (fun r12 => ?_)
            refine pq_goto (pc' := 56) rfl rfl ?_
            refine pq_w [] trivial ?_
            exact J211 (cgf s6 z7 2) r12 (hW _ (by rw [if_neg (by omega)]))
        · have hW := hW.2 c9
          refine pq_k (pc' := 40) (v := (1, (-9000000000000000002))) rfl rfl rfl (fun _ => rfl) ?_
          exact pq_lret rfl ⟨_, rfl, s6v, (⟨by decide, by decide⟩ : lR (-9000000000000000002)), hW⟩
      · have hW := hW.2 c5
        refine pq_w [] trivial ?_
        exact J17 N (by omega) s1 s1v hW
def C_common9 (l1 : Int) (s : im_S) (Q : Int → im_S → Prop) : Prop := (C_isRoot9 l1 s (fun z2 s1 => ((¬ (z2 = 0) → (C_rootAt4 l1 s1 (fun z5 s4 => (C_sharedDegree0 (cgf s4 z5 0) s4 (fun z8 s7 => (Q z8 s7)))))) ∧ (z2 = 0 → (Q (-1) s1)))))
set_option maxRecDepth 16384 in
theorem c_common9 (L : Nat) (ys : Nat → Int32) (d : Nat) (s : im_S) (hv : jI s) (l1 : Int) (l1r : iR l1) (Q : Int → im_S → Prop) (hW : C_common9 l1 s Q) : pcI L ys 0 d 208 [(2, ((0 : Nat) : Int)), (0, l1)] s (fun z9 s9 => jI s9 ∧ iR z9 ∧ Q z9 s9) := by
  intro res hres
  refine pq_start (M := rm_p_X9_common) (Q := (fun r : im_Re => ∃ z, r.1 = some (0, z) ∧ (jI r.2 ∧ iR z ∧ Q z r.2))) om_X9_common (fun d N => ?_) res hres
  refine pq_w [(0, (2, ((0 : Nat) : Int))), (1, (0, l1))] ⟨rfl, rfl, trivial⟩ ?_
  unfold C_common9 at hW
  refine pq_l (pc' := 1) rfl rfl rfl rfl rfl ?_
  refine pq_l (pc' := 2) rfl rfl rfl rfl rfl ?_
  refine pq_cVI (pc' := 5) rfl rfl rfl rfl rfl (c_isRoot9 L ys d s hv l1 l1r _ hW) (fun z2 s1 hr => ?_)
  obtain ⟨s1v, z2r, hW⟩ := hr
  refine pq_z_ne (pt := 10) (pc' := 8) rfl rfl rfl (fun c3 => ?_) (fun c3 => ?_)
  · have hW := hW.1 c3
    refine pq_l (pc' := 11) rfl rfl rfl rfl rfl ?_
    refine pq_gr (pc' := 14) (c := 84) (v := 84) rfl rfl rfl rfl rfl rfl s1v ?_
    refine pq_l (pc' := 15) rfl rfl rfl rfl rfl ?_
    refine pq_gr (pc' := 18) (c := 1) (v := 1) rfl rfl rfl rfl rfl rfl s1v ?_
    refine pq_l (pc' := 19) rfl rfl rfl rfl rfl ?_
    refine pq_cVR (pc' := 22) rfl rfl rfl rfl rfl (c_rootAt4 L ys d s1 s1v l1 l1r _ hW) (fun z5 s4 hr => ?_)
    obtain ⟨s4v, z5n, hW⟩ := hr
    refine pq_gi (pc' := 25) rfl rfl rfl rfl rfl (fun r6 => ?_)
    refine pq_cVI (pc' := 28) rfl rfl rfl rfl rfl (c_sharedDegree0 L ys d s4 s4v (cgf s4 z5 0) r6 _ hW) (fun z8 s7 hr => ?_)
    obtain ⟨s7v, z8r, hW⟩ := hr
    exact pq_iret rfl ⟨_, rfl, s7v, z8r, hW⟩
  · have hW := hW.2 c3
    refine pq_k (pc' := 9) (v := (0, (-1))) rfl rfl rfl (fun _ => rfl) ?_
    exact pq_iret rfl ⟨_, rfl, s1v, (⟨by decide, by decide⟩ : iR (-1)), hW⟩
def C_simple9_46 (l1 : Int) (l2 : Int) (s : im_S) (Q : Int → im_S → Prop) : Prop := (caI s 581 l1 → ((0 ≤ (cga s 581 l1) → (∀ v203 : Int, v203 = (if ¬ (l2 = 0) then (cga s 581 l1) else (cga s 580 l1)) → (Q v203 s))) ∧ (¬ (0 ≤ (cga s 581 l1)) → (Q (w64 ((-9000000000000000000) + (cga s 581 l1))) s))))
def C_simple9_17 (s : im_S) (Q : Int → im_S → Prop) : Prop := (Q (-9000000000000000001) s)
def C_simple9 (l1 : Int) (l2 : Int) (s : im_S) (Q : Int → im_S → Prop) : Prop := (C_isCell9 l1 s (fun z206 s205 => ((z206 = 0 → (C_simple9_17 s205 Q)) ∧ (¬ (z206 = 0) → ((l2 < 0 → (C_simple9_17 s205 Q)) ∧ (¬ (l2 < 0) → ((l2 ≤ 1 → ((¬ ((remI l1 2) = 0) → (C_fillAt4 l1 s205 (fun s211 => (C_simple9_46 l1 l2 s211 Q)))) ∧ ((remI l1 2) = 0 → (C_fillBetween4 l1 s205 (fun s213 => (C_simple9_46 l1 l2 s213 Q)))))) ∧ (¬ (l2 ≤ 1) → (C_simple9_17 s205 Q)))))))))
set_option maxRecDepth 16384 in
theorem c_simple9 (L : Nat) (ys : Nat → Int32) (d : Nat) (s : im_S) (hv : jI s) (l1 : Int) (l1r : iR l1) (l2 : Int) (l2r : iR l2) (Q : Int → im_S → Prop) (hW : C_simple9 l1 l2 s Q) : pcI L ys 1 d 224 [(2, ((0 : Nat) : Int)), (0, l1), (0, l2)] s (fun z9 s9 => jI s9 ∧ lR z9 ∧ Q z9 s9) := by
  intro res hres
  refine pq_start (M := rm_p_X9_simple) (Q := (fun r : im_Re => ∃ z, r.1 = some (1, z) ∧ (jI r.2 ∧ lR z ∧ Q z r.2))) om_X9_simple (fun d N => ?_) res hres
  refine pq_w [(0, (2, ((0 : Nat) : Int))), (1, (0, l1)), (2, (0, l2))] ⟨rfl, rfl, rfl, trivial⟩ ?_
  have J46 : ∀ N46 : Nat, N46 ≤ N → ∀ (l1 : Int) (l1r : iR l1) (l2 : Int) (l2r : iR l2) (s : im_S) (hv : jI s), C_simple9_46 l1 l2 s Q → pq L ys d N46 rm_p_X9_simple (46, [(0, (2, ((0 : Nat) : Int))), (1, (0, l1)), (2, (0, l2))], [], s) (fun r : im_Re => ∃ z, r.1 = some (1, z) ∧ (jI r.2 ∧ lR z ∧ Q z r.2)) := by
    intro N46 hN46 l1 l1r l2 l2r s hv hW
    unfold C_simple9_46 at hW
    refine pq_l (pc' := 47) rfl rfl rfl rfl rfl ?_
    refine pq_gr (pc' := 50) (c := 1) (v := 1) rfl rfl rfl rfl rfl rfl hv ?_
    refine pq_gr (pc' := 53) (c := 581) (v := 581) rfl rfl rfl rfl rfl rfl hv ?_
    refine pq_l (pc' := 54) rfl rfl rfl rfl rfl ?_
    refine pq_ia (pc' := 55) rfl rfl (fun r1a r1b r1 => ?_)
    have hW := hW ⟨⟨r1a, r1b⟩, r1⟩
    refine pq_s (pc' := 56) rfl rfl rfl rfl rfl ?_
    refine pq_l (pc' := 57) rfl rfl rfl rfl rfl ?_
    refine pq_z_ge (pt := 67) (pc' := 60) rfl rfl rfl (fun c2 => ?_) (fun c2 => ?_)
    · have hW := hW.1 c2
      refine pq_l (pc' := 68) rfl rfl rfl rfl rfl ?_
      have J204 : ∀ v203 : Int, lR v203 → ((Q v203 s)) → pq L ys d N46 rm_p_X9_simple (85, [], [(1, v203)], s) (fun r : im_Re => ∃ z, r.1 = some (1, z) ∧ (jI r.2 ∧ lR z ∧ Q z r.2)) := by
        intro v203 v203r hW
        exact pq_lret rfl ⟨_, rfl, hv, v203r, hW⟩
      refine pq_z_ne (pt := 83) (pc' := 71) rfl rfl rfl (fun c3 => ?_) (fun c3 => ?_)
      · refine pq_l (pc' := 84) rfl rfl rfl rfl rfl ?_
        refine pq_i2l (pc' := 85) rfl rfl r1 ?_
        refine pq_w [] trivial ?_
        exact J204 (cga s 581 l1) (iR_l r1) (hW _ (by rw [if_pos c3]))
      · refine pq_l (pc' := 72) rfl rfl rfl rfl rfl ?_
        refine pq_gr (pc' := 75) (c := 1) (v := 1) rfl rfl rfl rfl rfl rfl hv ?_
        refine pq_gr (pc' := 78) (c := 580) (v := 580) rfl rfl rfl rfl rfl rfl hv ?_
        refine pq_l (pc' := 79) rfl rfl rfl rfl rfl ?_
        refine pq_la (pc' := 80) rfl rfl (fun r4a r4b r4 => ?_)
        refine pq_goto (pc' := 85) rfl rfl ?_
        refine pq_w [] trivial ?_
        exact J204 (cga s 580 l1) r4 (hW _ (by rw [if_neg (by omega)]))
    · have hW := hW.2 c2
      refine pq_k (pc' := 63) (v := (1, (-9000000000000000000))) rfl rfl rfl (fun _ => rfl) ?_
      refine pq_l (pc' := 64) rfl rfl rfl rfl rfl ?_
      refine pq_i2l (pc' := 65) rfl rfl r1 ?_
      refine pq_ladd (pc' := 66) rfl rfl ?_
      exact pq_lret rfl ⟨_, rfl, hv, (w64_r _), hW⟩
  have J17 : ∀ N17 : Nat, N17 ≤ N → ∀ (s : im_S) (hv : jI s), C_simple9_17 s Q → pq L ys d N17 rm_p_X9_simple (17, [], [], s) (fun r : im_Re => ∃ z, r.1 = some (1, z) ∧ (jI r.2 ∧ lR z ∧ Q z r.2)) := by
    intro N17 hN17 s hv hW
    unfold C_simple9_17 at hW
    refine pq_k (pc' := 20) (v := (1, (-9000000000000000001))) rfl rfl rfl (fun _ => rfl) ?_
    exact pq_lret rfl ⟨_, rfl, hv, (⟨by decide, by decide⟩ : lR (-9000000000000000001)), hW⟩
  unfold C_simple9 at hW
  refine pq_l (pc' := 1) rfl rfl rfl rfl rfl ?_
  refine pq_l (pc' := 2) rfl rfl rfl rfl rfl ?_
  refine pq_cVI (pc' := 5) rfl rfl rfl rfl rfl (c_isCell9 L ys d s hv l1 l1r _ hW) (fun z206 s205 hr => ?_)
  obtain ⟨s205v, z206r, hW⟩ := hr
  refine pq_z_eq (pt := 17) (pc' := 8) rfl rfl rfl (fun c207 => ?_) (fun c207 => ?_)
  · have hW := hW.1 c207
    refine pq_w [] trivial ?_
    exact J17 N (by omega) s205 s205v hW
  · have hW := hW.2 c207
    refine pq_l (pc' := 9) rfl rfl rfl rfl rfl ?_
    refine pq_z_lt (pt := 17) (pc' := 12) rfl rfl rfl (fun c208 => ?_) (fun c208 => ?_)
    · have hW := hW.1 c208
      refine pq_w [] trivial ?_
      exact J17 N (by omega) s205 s205v hW
    · have hW := hW.2 c208
      refine pq_l (pc' := 13) rfl rfl rfl rfl rfl ?_
      refine pq_k (pc' := 14) (v := (0, 1)) rfl rfl rfl (fun _ => rfl) ?_
      refine pq_c_le (pt := 21) (pc' := 17) rfl rfl rfl (fun c209 => ?_) (fun c209 => ?_)
      · have hW := hW.1 c209
        refine pq_l (pc' := 22) rfl rfl rfl rfl rfl ?_
        refine pq_k (pc' := 23) (v := (0, 2)) rfl rfl rfl (fun _ => rfl) ?_
        refine pq_irem (pc' := 24) rfl rfl ?_
        refine pq_z_ne (pt := 38) (pc' := 27) rfl rfl rfl (fun c210 => ?_) (fun c210 => ?_)
        · have hW := hW.1 c210
          refine pq_l (pc' := 39) rfl rfl rfl rfl rfl ?_
          refine pq_gr (pc' := 42) (c := 1) (v := 1) rfl rfl rfl rfl rfl rfl s205v ?_
          refine pq_l (pc' := 43) rfl rfl rfl rfl rfl ?_
          refine pq_cVV (pc' := 46) rfl rfl rfl rfl rfl (c_fillAt4 L ys d s205 s205v l1 l1r _ hW) (fun s211 hr => ?_)
          obtain ⟨s211v, hW⟩ := hr
          refine pq_w [(0, (2, ((0 : Nat) : Int))), (1, (0, l1)), (2, (0, l2))] ⟨rfl, rfl, rfl, trivial⟩ ?_
          exact J46 N (by omega) l1 l1r l2 l2r s211 s211v hW
        · have hW := hW.2 c210
          refine pq_l (pc' := 28) rfl rfl rfl rfl rfl ?_
          refine pq_gr (pc' := 31) (c := 1) (v := 1) rfl rfl rfl rfl rfl rfl s205v ?_
          refine pq_l (pc' := 32) rfl rfl rfl rfl rfl ?_
          refine pq_cVV (pc' := 35) rfl rfl rfl rfl rfl (c_fillBetween4 L ys d s205 s205v l1 l1r _ hW) (fun s213 hr => ?_)
          obtain ⟨s213v, hW⟩ := hr
          refine pq_goto (pc' := 46) rfl rfl ?_
          refine pq_w [(0, (2, ((0 : Nat) : Int))), (1, (0, l1)), (2, (0, l2))] ⟨rfl, rfl, rfl, trivial⟩ ?_
          exact J46 N (by omega) l1 l1r l2 l2r s213 s213v hW
      · have hW := hW.2 c209
        refine pq_w [] trivial ?_
        exact J17 N (by omega) s205 s205v hW
def C_isFraction9 (l0 : Int) (l1 : Int) (s : im_S) (Q : Int → im_S → Prop) : Prop := (∀ v201 : Int, v201 = (if l1 < 1 then 0 else (if 1000000000 < l1 then 0 else (if l0 < (-1000000000) then 0 else (if 1000000000 < l0 then 0 else 1)))) → (Q v201 s))
set_option maxRecDepth 16384 in
theorem c_isFraction9 (L : Nat) (ys : Nat → Int32) (d : Nat) (s : im_S) (hv : jI s) (l0 : Int) (l0r : iR l0) (l1 : Int) (l1r : iR l1) (Q : Int → im_S → Prop) (hW : C_isFraction9 l0 l1 s Q) : pcI L ys 0 d 216 [(0, l0), (0, l1)] s (fun z9 s9 => jI s9 ∧ iR z9 ∧ Q z9 s9) := by
  intro res hres
  refine pq_start (M := rm_p_X9_isFraction) (Q := (fun r : im_Re => ∃ z, r.1 = some (0, z) ∧ (jI r.2 ∧ iR z ∧ Q z r.2))) om_X9_isFraction (fun d N => ?_) res hres
  refine pq_w [(0, (0, l0)), (1, (0, l1))] ⟨rfl, rfl, trivial⟩ ?_
  unfold C_isFraction9 at hW
  refine pq_l (pc' := 1) rfl rfl rfl rfl rfl ?_
  refine pq_k (pc' := 2) (v := (0, 1)) rfl rfl rfl (fun _ => rfl) ?_
  have J202 : ∀ v201 : Int, iR v201 → ((Q v201 s)) → pq L ys d N rm_p_X9_isFraction (37, [], [(0, v201)], s) (fun r : im_Re => ∃ z, r.1 = some (0, z) ∧ (jI r.2 ∧ iR z ∧ Q z r.2)) := by
    intro v201 v201r hW
    exact pq_iret rfl ⟨_, rfl, hv, v201r, hW⟩
  refine pq_c_lt (pt := 36) (pc' := 5) rfl rfl rfl (fun c1 => ?_) (fun c1 => ?_)
  · refine pq_k (pc' := 37) (v := (0, 0)) rfl rfl rfl (fun _ => rfl) ?_
    refine pq_w [] trivial ?_
    exact J202 0 (⟨by decide, by decide⟩ : iR 0) (hW _ (by rw [if_pos c1]))
  · refine pq_l (pc' := 6) rfl rfl rfl rfl rfl ?_
    refine pq_i2l (pc' := 7) rfl rfl l1r ?_
    refine pq_k (pc' := 10) (v := (1, 1000000000)) rfl rfl rfl (fun _ => rfl) ?_
    refine pq_lcmp (pc' := 11) rfl rfl (iR_l l1r) (⟨by decide, by decide⟩ : lR 1000000000) (fun z2 z2c => ?_)
    refine pq_z_gt (pt := 36) (pc' := 14) rfl rfl rfl (fun c3 => ?_) (fun c3 => ?_)
    · have c3 : 1000000000 < l1 := by omega
      refine pq_k (pc' := 37) (v := (0, 0)) rfl rfl rfl (fun _ => rfl) ?_
      refine pq_w [] trivial ?_
      exact J202 0 (⟨by decide, by decide⟩ : iR 0) (hW _ (by rw [if_neg (fun z => c1 z), if_pos c3]))
    · have c3 : ¬ (1000000000 < l1) := by omega
      refine pq_l (pc' := 15) rfl rfl rfl rfl rfl ?_
      refine pq_i2l (pc' := 16) rfl rfl l0r ?_
      refine pq_k (pc' := 19) (v := (1, (-1000000000))) rfl rfl rfl (fun _ => rfl) ?_
      refine pq_lcmp (pc' := 20) rfl rfl (iR_l l0r) (⟨by decide, by decide⟩ : lR (-1000000000)) (fun z4 z4c => ?_)
      refine pq_z_lt (pt := 36) (pc' := 23) rfl rfl rfl (fun c5 => ?_) (fun c5 => ?_)
      · have c5 : l0 < (-1000000000) := by omega
        refine pq_k (pc' := 37) (v := (0, 0)) rfl rfl rfl (fun _ => rfl) ?_
        refine pq_w [] trivial ?_
        exact J202 0 (⟨by decide, by decide⟩ : iR 0) (hW _ (by rw [if_neg (fun z => c1 z), if_neg (fun z => c3 z), if_pos c5]))
      · have c5 : ¬ (l0 < (-1000000000)) := by omega
        refine pq_l (pc' := 24) rfl rfl rfl rfl rfl ?_
        refine pq_i2l (pc' := 25) rfl rfl l0r ?_
        refine pq_k (pc' := 28) (v := (1, 1000000000)) rfl rfl rfl (fun _ => rfl) ?_
        refine pq_lcmp (pc' := 29) rfl rfl (iR_l l0r) (⟨by decide, by decide⟩ : lR 1000000000) (fun z6 z6c => ?_)
        refine pq_z_gt (pt := 36) (pc' := 32) rfl rfl rfl (fun c7 => ?_) (fun c7 => ?_)
        · have c7 : 1000000000 < l0 := by omega
          refine pq_k (pc' := 37) (v := (0, 0)) rfl rfl rfl (fun _ => rfl) ?_
          refine pq_w [] trivial ?_
          exact J202 0 (⟨by decide, by decide⟩ : iR 0) (hW _ (by rw [if_neg (fun z => c1 z), if_neg (fun z => c3 z), if_neg (fun z => c5 z), if_pos c7]))
        · have c7 : ¬ (1000000000 < l0) := by omega
          refine pq_k (pc' := 33) (v := (0, 1)) rfl rfl rfl (fun _ => rfl) ?_
          refine pq_goto (pc' := 37) rfl rfl ?_
          refine pq_w [] trivial ?_
          exact J202 1 (⟨by decide, by decide⟩ : iR 1) (hW _ (by rw [if_neg (fun z => c1 z), if_neg (fun z => c3 z), if_neg (fun z => c5 z), if_neg (fun z => c7 z)]))
def C_J9_floorMod_7cf53_18 (l2 : Int) (s : im_S) (Q : Int → im_S → Prop) : Prop := (Q l2 s)
def C_J9_floorMod_7cf53 (l0 : Int) (l1 : Int) (s : im_S) (Q : Int → im_S → Prop) : Prop := ((0 ≤ (xorI l0 l1) → (C_J9_floorMod_7cf53_18 (remI l0 l1) s Q)) ∧ (¬ (0 ≤ (xorI l0 l1)) → (((remI l0 l1) = 0 → (C_J9_floorMod_7cf53_18 (remI l0 l1) s Q)) ∧ (¬ ((remI l0 l1) = 0) → (Q (w32 ((remI l0 l1) + l1)) s)))))
set_option maxRecDepth 16384 in
theorem c_J9_floorMod_7cf53 (L : Nat) (ys : Nat → Int32) (d : Nat) (s : im_S) (hv : jI s) (l0 : Int) (l0r : iR l0) (l1 : Int) (l1r : iR l1) (Q : Int → im_S → Prop) (hW : C_J9_floorMod_7cf53 l0 l1 s Q) : pcI L ys 0 d 240 [(0, l0), (0, l1)] s (fun z9 s9 => jI s9 ∧ iR z9 ∧ Q z9 s9) := by
  intro res hres
  refine pq_start (M := rm_p_J9_floorMod_7cf53) (Q := (fun r : im_Re => ∃ z, r.1 = some (0, z) ∧ (jI r.2 ∧ iR z ∧ Q z r.2))) om_J9_floorMod_7cf53 (fun d N => ?_) res hres
  refine pq_w [(0, (0, l0)), (1, (0, l1))] ⟨rfl, rfl, trivial⟩ ?_
  have J18 : ∀ N18 : Nat, N18 ≤ N → ∀ (l2 : Int) (l2r : iR l2) (s : im_S) (hv : jI s), C_J9_floorMod_7cf53_18 l2 s Q → pq L ys d N18 rm_p_J9_floorMod_7cf53 (18, [(2, (0, l2))], [], s) (fun r : im_Re => ∃ z, r.1 = some (0, z) ∧ (jI r.2 ∧ iR z ∧ Q z r.2)) := by
    intro N18 hN18 l2 l2r s hv hW
    unfold C_J9_floorMod_7cf53_18 at hW
    refine pq_l (pc' := 19) rfl rfl rfl rfl rfl ?_
    exact pq_iret rfl ⟨_, rfl, hv, l2r, hW⟩
  unfold C_J9_floorMod_7cf53 at hW
  refine pq_l (pc' := 1) rfl rfl rfl rfl rfl ?_
  refine pq_l (pc' := 2) rfl rfl rfl rfl rfl ?_
  refine pq_irem (pc' := 3) rfl rfl ?_
  refine pq_s (pc' := 4) rfl rfl rfl rfl rfl ?_
  refine pq_l (pc' := 5) rfl rfl rfl rfl rfl ?_
  refine pq_l (pc' := 6) rfl rfl rfl rfl rfl ?_
  refine pq_ixor (pc' := 7) rfl rfl ?_
  refine pq_z_ge (pt := 18) (pc' := 10) rfl rfl rfl (fun c1 => ?_) (fun c1 => ?_)
  · have hW := hW.1 c1
    refine pq_w [(2, (0, (remI l0 l1)))] ⟨rfl, trivial⟩ ?_
    exact J18 N (by omega) (remI l0 l1) (remI_r _ _) s hv hW
  · have hW := hW.2 c1
    refine pq_l (pc' := 11) rfl rfl rfl rfl rfl ?_
    refine pq_z_eq (pt := 18) (pc' := 14) rfl rfl rfl (fun c2 => ?_) (fun c2 => ?_)
    · have hW := hW.1 c2
      refine pq_w [(2, (0, (remI l0 l1)))] ⟨rfl, trivial⟩ ?_
      exact J18 N (by omega) (remI l0 l1) (remI_r _ _) s hv hW
    · have hW := hW.2 c2
      refine pq_l (pc' := 15) rfl rfl rfl rfl rfl ?_
      refine pq_l (pc' := 16) rfl rfl rfl rfl rfl ?_
      refine pq_add (pc' := 17) rfl rfl ?_
      exact pq_iret rfl ⟨_, rfl, hv, (w32_r _), hW⟩
def C_cellOf9_15 (s : im_S) (Q : Int → im_S → Prop) : Prop := (Q (-1) s)
def C_cellOf9 (l1 : Int) (l2 : Int) (s : im_S) (Q : Int → im_S → Prop) : Prop := (((cgf s 0 3) = 0 → (C_cellOf9_15 s Q)) ∧ (¬ ((cgf s 0 3) = 0) → (C_isFraction9 l1 l2 s (fun z4 s3 => ((¬ (z4 = 0) → (C_J9_floorDiv_7cf53 l1 l2 s3 (fun z7 s6 => (C_J9_floorMod_7cf53 l1 l2 s6 (fun z9 s8 => (C_locate4 z7 z9 l2 s8 (fun z11 s10 => (Q z11 s10)))))))) ∧ (z4 = 0 → (C_cellOf9_15 s3 Q)))))))
set_option maxRecDepth 16384 in
theorem c_cellOf9 (L : Nat) (ys : Nat → Int32) (d : Nat) (s : im_S) (hv : jI s) (l1 : Int) (l1r : iR l1) (l2 : Int) (l2r : iR l2) (Q : Int → im_S → Prop) (hW : C_cellOf9 l1 l2 s Q) : pcI L ys 0 d 207 [(2, ((0 : Nat) : Int)), (0, l1), (0, l2)] s (fun z9 s9 => jI s9 ∧ iR z9 ∧ Q z9 s9) := by
  intro res hres
  refine pq_start (M := rm_p_X9_cellOf) (Q := (fun r : im_Re => ∃ z, r.1 = some (0, z) ∧ (jI r.2 ∧ iR z ∧ Q z r.2))) om_X9_cellOf (fun d N => ?_) res hres
  refine pq_w [(0, (2, ((0 : Nat) : Int))), (1, (0, l1)), (2, (0, l2))] ⟨rfl, rfl, rfl, trivial⟩ ?_
  have J15 : ∀ N15 : Nat, N15 ≤ N → ∀ (s : im_S) (hv : jI s), C_cellOf9_15 s Q → pq L ys d N15 rm_p_X9_cellOf (15, [], [], s) (fun r : im_Re => ∃ z, r.1 = some (0, z) ∧ (jI r.2 ∧ iR z ∧ Q z r.2)) := by
    intro N15 hN15 s hv hW
    unfold C_cellOf9_15 at hW
    refine pq_k (pc' := 16) (v := (0, (-1))) rfl rfl rfl (fun _ => rfl) ?_
    exact pq_iret rfl ⟨_, rfl, hv, (⟨by decide, by decide⟩ : iR (-1)), hW⟩
  unfold C_cellOf9 at hW
  refine pq_l (pc' := 1) rfl rfl rfl rfl rfl ?_
  refine pq_gi (pc' := 4) rfl rfl rfl rfl rfl (fun r1 => ?_)
  refine pq_z_eq (pt := 15) (pc' := 7) rfl rfl rfl (fun c2 => ?_) (fun c2 => ?_)
  · have hW := hW.1 c2
    refine pq_w [] trivial ?_
    exact J15 N (by omega) s hv hW
  · have hW := hW.2 c2
    refine pq_l (pc' := 8) rfl rfl rfl rfl rfl ?_
    refine pq_l (pc' := 9) rfl rfl rfl rfl rfl ?_
    refine pq_cSI (pc' := 12) rfl rfl rfl rfl rfl (c_isFraction9 L ys d s hv l1 l1r l2 l2r _ hW) (fun z4 s3 hr => ?_)
    obtain ⟨s3v, z4r, hW⟩ := hr
    refine pq_z_ne (pt := 17) (pc' := 15) rfl rfl rfl (fun c5 => ?_) (fun c5 => ?_)
    · have hW := hW.1 c5
      refine pq_l (pc' := 18) rfl rfl rfl rfl rfl ?_
      refine pq_gr (pc' := 21) (c := 1) (v := 1) rfl rfl rfl rfl rfl rfl s3v ?_
      refine pq_l (pc' := 22) rfl rfl rfl rfl rfl ?_
      refine pq_l (pc' := 23) rfl rfl rfl rfl rfl ?_
      refine pq_cSI (pc' := 26) rfl rfl rfl rfl rfl (c_J9_floorDiv_7cf53 L ys d s3 s3v l1 l1r l2 l2r _ hW) (fun z7 s6 hr => ?_)
      obtain ⟨s6v, z7r, hW⟩ := hr
      refine pq_i2l (pc' := 27) rfl rfl z7r ?_
      refine pq_l (pc' := 28) rfl rfl rfl rfl rfl ?_
      refine pq_l (pc' := 29) rfl rfl rfl rfl rfl ?_
      refine pq_cSI (pc' := 32) rfl rfl rfl rfl rfl (c_J9_floorMod_7cf53 L ys d s6 s6v l1 l1r l2 l2r _ hW) (fun z9 s8 hr => ?_)
      obtain ⟨s8v, z9r, hW⟩ := hr
      refine pq_i2l (pc' := 33) rfl rfl z9r ?_
      refine pq_l (pc' := 34) rfl rfl rfl rfl rfl ?_
      refine pq_i2l (pc' := 35) rfl rfl l2r ?_
      refine pq_cVI (pc' := 38) rfl rfl rfl rfl rfl (c_locate4 L ys d s8 s8v z7 (iR_l z7r) z9 (iR_l z9r) l2 (iR_l l2r) _ hW) (fun z11 s10 hr => ?_)
      obtain ⟨s10v, z11r, hW⟩ := hr
      exact pq_iret rfl ⟨_, rfl, s10v, z11r, hW⟩
    · have hW := hW.2 c5
      refine pq_w [] trivial ?_
      exact J15 N (by omega) s3 s3v hW
def C_signAt9_16 (s : im_S) (Q : Int → im_S → Prop) : Prop := (Q (-2) s)
def C_signAt9 (l1 : Int) (l2 : Int) (l3 : Int) (s : im_S) (Q : Int → im_S → Prop) : Prop := (C_isAtom9 l1 s (fun z2 s1 => ((z2 = 0 → (C_signAt9_16 s1 Q)) ∧ (¬ (z2 = 0) → (C_isFraction9 l2 l3 s1 (fun z5 s4 => ((¬ (z5 = 0) → (C_signAtFraction3 (61 + 2 * (l1).toNat) l2 l3 s4 (fun z9 s8 => (Q z9 s8)))) ∧ (z5 = 0 → (C_signAt9_16 s4 Q)))))))))
set_option maxRecDepth 16384 in
theorem c_signAt9 (L : Nat) (ys : Nat → Int32) (d : Nat) (s : im_S) (hv : jI s) (l1 : Int) (l1r : iR l1) (l2 : Int) (l2r : iR l2) (l3 : Int) (l3r : iR l3) (Q : Int → im_S → Prop) (hW : C_signAt9 l1 l2 l3 s Q) : pcI L ys 0 d 223 [(2, ((0 : Nat) : Int)), (0, l1), (0, l2), (0, l3)] s (fun z9 s9 => jI s9 ∧ iR z9 ∧ Q z9 s9) := by
  intro res hres
  refine pq_start (M := rm_p_X9_signAt) (Q := (fun r : im_Re => ∃ z, r.1 = some (0, z) ∧ (jI r.2 ∧ iR z ∧ Q z r.2))) om_X9_signAt (fun d N => ?_) res hres
  refine pq_w [(0, (2, ((0 : Nat) : Int))), (1, (0, l1)), (2, (0, l2)), (3, (0, l3))] ⟨rfl, rfl, rfl, rfl, trivial⟩ ?_
  have J16 : ∀ N16 : Nat, N16 ≤ N → ∀ (s : im_S) (hv : jI s), C_signAt9_16 s Q → pq L ys d N16 rm_p_X9_signAt (16, [], [], s) (fun r : im_Re => ∃ z, r.1 = some (0, z) ∧ (jI r.2 ∧ iR z ∧ Q z r.2)) := by
    intro N16 hN16 s hv hW
    unfold C_signAt9_16 at hW
    refine pq_k (pc' := 18) (v := (0, (-2))) rfl rfl rfl (fun _ => rfl) ?_
    exact pq_iret rfl ⟨_, rfl, hv, (⟨by decide, by decide⟩ : iR (-2)), hW⟩
  unfold C_signAt9 at hW
  refine pq_l (pc' := 1) rfl rfl rfl rfl rfl ?_
  refine pq_l (pc' := 2) rfl rfl rfl rfl rfl ?_
  refine pq_cVI (pc' := 5) rfl rfl rfl rfl rfl (c_isAtom9 L ys d s hv l1 l1r _ hW) (fun z2 s1 hr => ?_)
  obtain ⟨s1v, z2r, hW⟩ := hr
  refine pq_z_eq (pt := 16) (pc' := 8) rfl rfl rfl (fun c3 => ?_) (fun c3 => ?_)
  · have hW := hW.1 c3
    refine pq_w [] trivial ?_
    exact J16 N (by omega) s1 s1v hW
  · have hW := hW.2 c3
    refine pq_l (pc' := 9) rfl rfl rfl rfl rfl ?_
    refine pq_l (pc' := 10) rfl rfl rfl rfl rfl ?_
    refine pq_cSI (pc' := 13) rfl rfl rfl rfl rfl (c_isFraction9 L ys d s1 s1v l2 l2r l3 l3r _ hW) (fun z5 s4 hr => ?_)
    obtain ⟨s4v, z5r, hW⟩ := hr
    refine pq_z_ne (pt := 19) (pc' := 16) rfl rfl rfl (fun c6 => ?_) (fun c6 => ?_)
    · have hW := hW.1 c6
      refine pq_l (pc' := 20) rfl rfl rfl rfl rfl ?_
      refine pq_gr (pc' := 23) (c := 83) (v := 83) rfl rfl rfl rfl rfl rfl s4v ?_
      refine pq_l (pc' := 24) rfl rfl rfl rfl rfl ?_
      refine pq_gr (pc' := 27) (c := 2) (v := 2) rfl rfl rfl rfl rfl rfl s4v ?_
      refine pq_gr (pc' := 30) (c := 60) (v := 60) rfl rfl rfl rfl rfl rfl s4v ?_
      refine pq_l (pc' := 31) rfl rfl rfl rfl rfl ?_
      refine pq_aa (pc' := 32) (b := 61) (k := 2) (n := 10) (m := 10) rfl rfl rfl rfl rfl s4v (fun r7a r7b => ?_)
      refine pq_l (pc' := 33) rfl rfl rfl rfl rfl ?_
      refine pq_i2l (pc' := 34) rfl rfl l2r ?_
      refine pq_l (pc' := 35) rfl rfl rfl rfl rfl ?_
      refine pq_i2l (pc' := 36) rfl rfl l3r ?_
      refine pq_cVI (pc' := 39) rfl rfl rfl rfl rfl (c_signAtFraction3 L ys d s4 s4v (61 + 2 * (l1).toNat) l2 (iR_l l2r) l3 (iR_l l3r) _ hW) (fun z9 s8 hr => ?_)
      obtain ⟨s8v, z9r, hW⟩ := hr
      exact pq_iret rfl ⟨_, rfl, s8v, z9r, hW⟩
    · have hW := hW.2 c6
      refine pq_w [] trivial ?_
      exact J16 N (by omega) s4 s4v hW
