/-! THE READER BY VALUE, calling itself, lifted by program -/
def RV_readText7v (L : Nat) (ys : Nat → Int32) (d : Nat) : Prop := ∀ (s : im_S) (hv : jI s) (l1 : Int) (l1r : iR l1) (Q : im_S → Prop), CV_readText l1 s Q → pcV L ys d 200 [(2, ((2 : Nat) : Int)), (0, l1)] s (fun s9 => jI s9 ∧ Q s9)
def RV_readAll7v (L : Nat) (ys : Nat → Int32) (d : Nat) : Prop := ∀ (s : im_S) (hv : jI s) (l1 : Int) (l1r : iR l1) (Q : im_S → Prop), CV_readAll l1 s Q → pcV L ys d 192 [(2, ((2 : Nat) : Int)), (0, l1)] s (fun s9 => jI s9 ∧ Q s9)
def RV_readOne7v (L : Nat) (ys : Nat → Int32) (d : Nat) : Prop := ∀ (s : im_S) (hv : jI s) (l1 : Int) (l1r : iR l1) (Q : im_S → Prop), CV_readOne l1 s Q → pcV L ys d 196 [(2, ((2 : Nat) : Int)), (0, l1)] s (fun s9 => jI s9 ∧ Q s9)
def RV_readAtom7v (L : Nat) (ys : Nat → Int32) (d : Nat) : Prop := ∀ (s : im_S) (hv : jI s) (Q : im_S → Prop), CV_readAtom s Q → pcV L ys d 193 [(2, ((2 : Nat) : Int))] s (fun s9 => jI s9 ∧ Q s9)
def RV_readSum7v (L : Nat) (ys : Nat → Int32) (d : Nat) : Prop := ∀ (s : im_S) (hv : jI s) (l1 : Int) (l1r : iR l1) (l2 : Int) (l2r : iR l2) (Q : im_S → Prop), CV_readSum l1 l2 s Q → pcV L ys d 198 [(2, ((2 : Nat) : Int)), (0, l1), (0, l2)] s (fun s9 => jI s9 ∧ Q s9)
def RV_readTerm7v (L : Nat) (ys : Nat → Int32) (d : Nat) : Prop := ∀ (s : im_S) (hv : jI s) (l1 : Int) (l1r : iR l1) (l2 : Int) (l2r : iR l2) (Q : im_S → Prop), CV_readTerm l1 l2 s Q → pcV L ys d 199 [(2, ((2 : Nat) : Int)), (0, l1), (0, l2)] s (fun s9 => jI s9 ∧ Q s9)
def RV_readPower7v (L : Nat) (ys : Nat → Int32) (d : Nat) : Prop := ∀ (s : im_S) (hv : jI s) (l1 : Int) (l1r : iR l1) (l2 : Int) (l2r : iR l2) (Q : im_S → Prop), CV_readPower l1 l2 s Q → pcV L ys d 197 [(2, ((2 : Nat) : Int)), (0, l1), (0, l2)] s (fun s9 => jI s9 ∧ Q s9)
def RV_readBase7v (L : Nat) (ys : Nat → Int32) (d : Nat) : Prop := ∀ (s : im_S) (hv : jI s) (l1 : Int) (l1r : iR l1) (l2 : Int) (l2r : iR l2) (Q : im_S → Prop), CV_readBase l1 l2 s Q → pcV L ys d 194 [(2, ((2 : Nat) : Int)), (0, l1), (0, l2)] s (fun s9 => jI s9 ∧ Q s9)
def RV (L : Nat) (ys : Nat → Int32) (d : Nat) : Prop := RV_readText7v L ys d ∧ RV_readAll7v L ys d ∧ RV_readOne7v L ys d ∧ RV_readAtom7v L ys d ∧ RV_readSum7v L ys d ∧ RV_readTerm7v L ys d ∧ RV_readPower7v L ys d ∧ RV_readBase7v L ys d
def C_readText7v_44 (s : im_S) (Q : im_S → Prop) : Prop := (Q s)
def C_readText7v_7 (K7 : Int × im_S → Prop) (l1 : Int) (l2 : Int) (s : im_S) (Q : im_S → Prop) : Prop := ((400 ≤ l2 → (C_readText7v_44 s Q)) ∧ (¬ (400 ≤ l2) → ((¬ ((cgf s 2 3) = 124) → (C_readText7v_44 s Q)) ∧ ((cgf s 2 3) = 124 → (C_step7v s (fun s4 => (CV_readAll l1 s4 (fun s6 => (C_emit7 12 s6 (fun s8 => (K7 ((w32 (l2 + 1)), s8))))))))))))
def C_readText7v (l1 : Int) (s : im_S) (Q : im_S → Prop) : Prop := (CV_readAll l1 s (fun s11 => (ploop (fun (K : Int × im_S → Prop) (a : Int × im_S) => C_readText7v_7 K l1 a.1 a.2 Q) (0, s11))))
set_option maxRecDepth 16384 in
theorem c_readText7v (L : Nat) (ys : Nat → Int32) (d : Nat) (hS : RV L ys d) (s : im_S) (hv : jI s) (l1 : Int) (l1r : iR l1) (Q : im_S → Prop) (hW : C_readText7v l1 s Q) : pcV L ys (d + 1) 200 [(2, ((2 : Nat) : Int)), (0, l1)] s (fun s9 => jI s9 ∧ Q s9) := by
  intro res hres
  refine pq_start_s (M := rm_p_X7_readText) (Q := (fun r : im_Re => r.1 = none ∧ (jI r.2 ∧ Q r.2))) om_X7_readText (fun N => ?_) res hres
  refine pq_w [(0, (2, ((2 : Nat) : Int))), (1, (0, l1))] ⟨rfl, rfl, trivial⟩ ?_
  have J44 : ∀ N44 : Nat, N44 ≤ N → ∀ (s : im_S) (hv : jI s), C_readText7v_44 s Q → pq L ys d N44 rm_p_X7_readText (44, [], [], s) (fun r : im_Re => r.1 = none ∧ (jI r.2 ∧ Q r.2)) := by
    intro N44 hN44 s hv hW
    unfold C_readText7v_44 at hW
    exact pq_vret rfl ⟨rfl, hv, hW⟩
  have J7 : ∀ (l1 : Int) (l1r : iR l1) (I7 : Int × im_S → Prop) (hB7 : ∀ a : Int × im_S, I7 a → C_readText7v_7 I7 l1 a.1 a.2 Q), ∀ N7 : Nat, N7 ≤ N → ∀ (l2 : Int) (l2r : iR l2) (s : im_S) (hv : jI s), I7 (l2, s) → pq L ys d N7 rm_p_X7_readText (7, [(0, (2, ((2 : Nat) : Int))), (1, (0, l1)), (2, (0, l2))], [], s) (fun r : im_Re => r.1 = none ∧ (jI r.2 ∧ Q r.2)) := by
    intro l1 l1r I7 hB7 N7
    induction N7 using Nat.strongRecOn with
    | _ N7 ih7 =>
      intro hN7 l2 l2r s hv hI
      have hW : C_readText7v_7 I7 l1 l2 s Q := hB7 (l2, s) hI
      unfold C_readText7v_7 at hW
      refine pq_l (pc' := 8) rfl rfl rfl rfl rfl ?_
      refine pq_k (pc' := 11) (v := (0, 400)) rfl rfl rfl (fun _ => rfl) ?_
      refine pq_c_ge (pt := 44) (pc' := 14) rfl rfl rfl (fun c1 => ?_) (fun c1 => ?_)
      · have hW := hW.1 c1
        refine pq_w [] trivial ?_
        exact J44 N7 (by omega) s hv hW
      · have hW := hW.2 c1
        refine pq_l (pc' := 15) rfl rfl rfl rfl rfl ?_
        refine pq_gi (pc' := 18) rfl rfl rfl rfl rfl (fun r2 => ?_)
        refine pq_k (pc' := 20) (v := (0, 124)) rfl rfl rfl (fun _ => rfl) ?_
        refine pq_c_ne (pt := 44) (pc' := 23) rfl rfl rfl (fun c3 => ?_) (fun c3 => ?_)
        · have hW := hW.1 c3
          refine pq_w [] trivial ?_
          exact J44 N7 (by omega) s hv hW
        · have hW := hW.2 c3
          refine pq_l (pc' := 24) rfl rfl rfl rfl rfl ?_
          refine pq_cVV (pc' := 27) rfl rfl rfl rfl rfl (c_step7v L ys d s hv  _ hW) (fun s4 hr => ?_)
          obtain ⟨s4v, hW⟩ := hr
          refine pq_l (pc' := 28) rfl rfl rfl rfl rfl ?_
          refine pq_l (pc' := 29) rfl rfl rfl rfl rfl ?_
          refine pq_cVV (pc' := 32) rfl rfl rfl rfl rfl (hS.2.1 s4 s4v l1 l1r _ hW) (fun s6 hr => ?_)
          obtain ⟨s6v, hW⟩ := hr
          refine pq_l (pc' := 33) rfl rfl rfl rfl rfl ?_
          refine pq_k (pc' := 35) (v := (0, 12)) rfl rfl rfl (fun _ => rfl) ?_
          refine pq_cVV (pc' := 38) rfl rfl rfl rfl rfl (c_emit7 L ys d s6 s6v 12 (⟨by decide, by decide⟩ : iR 12) _ hW) (fun s8 hr => ?_)
          obtain ⟨s8v, hW⟩ := hr
          refine pq_inc (pc' := 41) rfl rfl rfl rfl ?_
          refine pq_gotoT (pc' := 7) rfl rfl (fun m10 m10l => ?_)
          refine pq_w [(0, (2, ((2 : Nat) : Int))), (1, (0, l1)), (2, (0, (w32 (l2 + 1))))] ⟨rfl, rfl, rfl, trivial⟩ ?_
          exact ih7 m10 (by omega) (by omega) (w32 (l2 + 1)) (w32_r _) s8 s8v hW
  unfold C_readText7v at hW
  refine pq_l (pc' := 1) rfl rfl rfl rfl rfl ?_
  refine pq_l (pc' := 2) rfl rfl rfl rfl rfl ?_
  refine pq_cVV (pc' := 5) rfl rfl rfl rfl rfl (hS.2.1 s hv l1 l1r _ hW) (fun s11 hr => ?_)
  obtain ⟨s11v, hW⟩ := hr
  refine pq_k (pc' := 6) (v := (0, 0)) rfl rfl rfl (fun _ => rfl) ?_
  refine pq_s (pc' := 7) rfl rfl rfl rfl rfl ?_
  refine pq_w [(0, (2, ((2 : Nat) : Int))), (1, (0, l1)), (2, (0, 0))] ⟨rfl, rfl, rfl, trivial⟩ ?_
  obtain ⟨I9, hI9, hB9⟩ := hW
  exact J7 l1 l1r I9 hB9 N (by omega) 0 (⟨by decide, by decide⟩ : iR 0) s11 s11v hI9
def C_readAll7v_44 (s : im_S) (Q : im_S → Prop) : Prop := (Q s)
def C_readAll7v_7 (K7 : Int × im_S → Prop) (l1 : Int) (l2 : Int) (s : im_S) (Q : im_S → Prop) : Prop := ((400 ≤ l2 → (C_readAll7v_44 s Q)) ∧ (¬ (400 ≤ l2) → ((¬ ((cgf s 2 3) = 38) → (C_readAll7v_44 s Q)) ∧ ((cgf s 2 3) = 38 → (C_step7v s (fun s4 => (CV_readOne l1 s4 (fun s6 => (C_emit7 11 s6 (fun s8 => (K7 ((w32 (l2 + 1)), s8))))))))))))
def C_readAll7v (l1 : Int) (s : im_S) (Q : im_S → Prop) : Prop := (CV_readOne l1 s (fun s11 => (ploop (fun (K : Int × im_S → Prop) (a : Int × im_S) => C_readAll7v_7 K l1 a.1 a.2 Q) (0, s11))))
set_option maxRecDepth 16384 in
theorem c_readAll7v (L : Nat) (ys : Nat → Int32) (d : Nat) (hS : RV L ys d) (s : im_S) (hv : jI s) (l1 : Int) (l1r : iR l1) (Q : im_S → Prop) (hW : C_readAll7v l1 s Q) : pcV L ys (d + 1) 192 [(2, ((2 : Nat) : Int)), (0, l1)] s (fun s9 => jI s9 ∧ Q s9) := by
  intro res hres
  refine pq_start_s (M := rm_p_X7_readAll) (Q := (fun r : im_Re => r.1 = none ∧ (jI r.2 ∧ Q r.2))) om_X7_readAll (fun N => ?_) res hres
  refine pq_w [(0, (2, ((2 : Nat) : Int))), (1, (0, l1))] ⟨rfl, rfl, trivial⟩ ?_
  have J44 : ∀ N44 : Nat, N44 ≤ N → ∀ (s : im_S) (hv : jI s), C_readAll7v_44 s Q → pq L ys d N44 rm_p_X7_readAll (44, [], [], s) (fun r : im_Re => r.1 = none ∧ (jI r.2 ∧ Q r.2)) := by
    intro N44 hN44 s hv hW
    unfold C_readAll7v_44 at hW
    exact pq_vret rfl ⟨rfl, hv, hW⟩
  have J7 : ∀ (l1 : Int) (l1r : iR l1) (I7 : Int × im_S → Prop) (hB7 : ∀ a : Int × im_S, I7 a → C_readAll7v_7 I7 l1 a.1 a.2 Q), ∀ N7 : Nat, N7 ≤ N → ∀ (l2 : Int) (l2r : iR l2) (s : im_S) (hv : jI s), I7 (l2, s) → pq L ys d N7 rm_p_X7_readAll (7, [(0, (2, ((2 : Nat) : Int))), (1, (0, l1)), (2, (0, l2))], [], s) (fun r : im_Re => r.1 = none ∧ (jI r.2 ∧ Q r.2)) := by
    intro l1 l1r I7 hB7 N7
    induction N7 using Nat.strongRecOn with
    | _ N7 ih7 =>
      intro hN7 l2 l2r s hv hI
      have hW : C_readAll7v_7 I7 l1 l2 s Q := hB7 (l2, s) hI
      unfold C_readAll7v_7 at hW
      refine pq_l (pc' := 8) rfl rfl rfl rfl rfl ?_
      refine pq_k (pc' := 11) (v := (0, 400)) rfl rfl rfl (fun _ => rfl) ?_
      refine pq_c_ge (pt := 44) (pc' := 14) rfl rfl rfl (fun c1 => ?_) (fun c1 => ?_)
      · have hW := hW.1 c1
        refine pq_w [] trivial ?_
        exact J44 N7 (by omega) s hv hW
      · have hW := hW.2 c1
        refine pq_l (pc' := 15) rfl rfl rfl rfl rfl ?_
        refine pq_gi (pc' := 18) rfl rfl rfl rfl rfl (fun r2 => ?_)
        refine pq_k (pc' := 20) (v := (0, 38)) rfl rfl rfl (fun _ => rfl) ?_
        refine pq_c_ne (pt := 44) (pc' := 23) rfl rfl rfl (fun c3 => ?_) (fun c3 => ?_)
        · have hW := hW.1 c3
          refine pq_w [] trivial ?_
          exact J44 N7 (by omega) s hv hW
        · have hW := hW.2 c3
          refine pq_l (pc' := 24) rfl rfl rfl rfl rfl ?_
          refine pq_cVV (pc' := 27) rfl rfl rfl rfl rfl (c_step7v L ys d s hv  _ hW) (fun s4 hr => ?_)
          obtain ⟨s4v, hW⟩ := hr
          refine pq_l (pc' := 28) rfl rfl rfl rfl rfl ?_
          refine pq_l (pc' := 29) rfl rfl rfl rfl rfl ?_
          refine pq_cVV (pc' := 32) rfl rfl rfl rfl rfl (hS.2.2.1 s4 s4v l1 l1r _ hW) (fun s6 hr => ?_)
          obtain ⟨s6v, hW⟩ := hr
          refine pq_l (pc' := 33) rfl rfl rfl rfl rfl ?_
          refine pq_k (pc' := 35) (v := (0, 11)) rfl rfl rfl (fun _ => rfl) ?_
          refine pq_cVV (pc' := 38) rfl rfl rfl rfl rfl (c_emit7 L ys d s6 s6v 11 (⟨by decide, by decide⟩ : iR 11) _ hW) (fun s8 hr => ?_)
          obtain ⟨s8v, hW⟩ := hr
          refine pq_inc (pc' := 41) rfl rfl rfl rfl ?_
          refine pq_gotoT (pc' := 7) rfl rfl (fun m10 m10l => ?_)
          refine pq_w [(0, (2, ((2 : Nat) : Int))), (1, (0, l1)), (2, (0, (w32 (l2 + 1))))] ⟨rfl, rfl, rfl, trivial⟩ ?_
          exact ih7 m10 (by omega) (by omega) (w32 (l2 + 1)) (w32_r _) s8 s8v hW
  unfold C_readAll7v at hW
  refine pq_l (pc' := 1) rfl rfl rfl rfl rfl ?_
  refine pq_l (pc' := 2) rfl rfl rfl rfl rfl ?_
  refine pq_cVV (pc' := 5) rfl rfl rfl rfl rfl (hS.2.2.1 s hv l1 l1r _ hW) (fun s11 hr => ?_)
  obtain ⟨s11v, hW⟩ := hr
  refine pq_k (pc' := 6) (v := (0, 0)) rfl rfl rfl (fun _ => rfl) ?_
  refine pq_s (pc' := 7) rfl rfl rfl rfl rfl ?_
  refine pq_w [(0, (2, ((2 : Nat) : Int))), (1, (0, l1)), (2, (0, 0))] ⟨rfl, rfl, rfl, trivial⟩ ?_
  obtain ⟨I9, hI9, hB9⟩ := hW
  exact J7 l1 l1r I9 hB9 N (by omega) 0 (⟨by decide, by decide⟩ : iR 0) s11 s11v hI9
def C_readOne7v_115 (s : im_S) (Q : im_S → Prop) : Prop := (Q s)
def C_readOne7v_102 (l2 : Int) (s : im_S) (Q : im_S → Prop) : Prop := ((¬ ((remI l2 2) = 1) → (C_readOne7v_115 s Q)) ∧ ((remI l2 2) = 1 → (C_emit7 10 s (fun s2 => (C_readOne7v_115 s2 Q)))))
def C_readOne7v_51 (l1 : Int) (l2 : Int) (s : im_S) (Q : im_S → Prop) : Prop := (((cgf s 2 3) = 91 → ((l1 < 10 → (C_step7v s (fun s7 => (CV_readText (w32 (l1 + 1)) s7 (fun s9 => (C_expect7v 93 s9 (fun s11 => (C_readOne7v_102 l2 s11 Q)))))))) ∧ (¬ (l1 < 10) → (C_fail7 3 (cgf s 2 2) s (fun s14 => (C_readOne7v_102 l2 s14 Q)))))) ∧ (¬ ((cgf s 2 3) = 91) → (CV_readAtom s (fun s16 => (C_readOne7v_102 l2 s16 Q)))))
def C_readOne7v_45 (K4 : Int × Int × im_S → Prop) (l1 : Int) (l2 : Int) (l3 : Int) (s : im_S) (Q : im_S → Prop) : Prop := (K4 (l2, (w32 (l3 + 1)), s))
def C_readOne7v_4 (K4 : Int × Int × im_S → Prop) (l1 : Int) (l2 : Int) (l3 : Int) (s : im_S) (Q : im_S → Prop) : Prop := ((400 ≤ l3 → (C_readOne7v_51 l1 l2 s Q)) ∧ (¬ (400 ≤ l3) → ((¬ ((cgf s 2 3) = 126) → (C_readOne7v_51 l1 l2 s Q)) ∧ ((cgf s 2 3) = 126 → ((l2 < 10 → (C_step7v s (fun s23 => (C_readOne7v_45 K4 l1 (w32 (l2 + 1)) l3 s23 Q)))) ∧ (¬ (l2 < 10) → (C_fail7 3 (cgf s 2 2) s (fun s26 => (C_readOne7v_45 K4 l1 l2 l3 s26 Q)))))))))
def C_readOne7v (l1 : Int) (s : im_S) (Q : im_S → Prop) : Prop := (ploop (fun (K : Int × Int × im_S → Prop) (a : Int × Int × im_S) => C_readOne7v_4 K l1 a.1 a.2.1 a.2.2 Q) (0, 0, s))
set_option maxRecDepth 16384 in
theorem c_readOne7v (L : Nat) (ys : Nat → Int32) (d : Nat) (hS : RV L ys d) (s : im_S) (hv : jI s) (l1 : Int) (l1r : iR l1) (Q : im_S → Prop) (hW : C_readOne7v l1 s Q) : pcV L ys (d + 1) 196 [(2, ((2 : Nat) : Int)), (0, l1)] s (fun s9 => jI s9 ∧ Q s9) := by
  intro res hres
  refine pq_start_s (M := rm_p_X7_readOne) (Q := (fun r : im_Re => r.1 = none ∧ (jI r.2 ∧ Q r.2))) om_X7_readOne (fun N => ?_) res hres
  refine pq_w [(0, (2, ((2 : Nat) : Int))), (1, (0, l1))] ⟨rfl, rfl, trivial⟩ ?_
  have J115 : ∀ N115 : Nat, N115 ≤ N → ∀ (s : im_S) (hv : jI s), C_readOne7v_115 s Q → pq L ys d N115 rm_p_X7_readOne (115, [], [], s) (fun r : im_Re => r.1 = none ∧ (jI r.2 ∧ Q r.2)) := by
    intro N115 hN115 s hv hW
    unfold C_readOne7v_115 at hW
    exact pq_vret rfl ⟨rfl, hv, hW⟩
  have J102 : ∀ N102 : Nat, N102 ≤ N → ∀ (l2 : Int) (l2r : iR l2) (s : im_S) (hv : jI s), C_readOne7v_102 l2 s Q → pq L ys d N102 rm_p_X7_readOne (102, [(0, (2, ((2 : Nat) : Int))), (2, (0, l2))], [], s) (fun r : im_Re => r.1 = none ∧ (jI r.2 ∧ Q r.2)) := by
    intro N102 hN102 l2 l2r s hv hW
    unfold C_readOne7v_102 at hW
    refine pq_l (pc' := 103) rfl rfl rfl rfl rfl ?_
    refine pq_k (pc' := 104) (v := (0, 2)) rfl rfl rfl (fun _ => rfl) ?_
    refine pq_irem (pc' := 105) rfl rfl ?_
    refine pq_k (pc' := 106) (v := (0, 1)) rfl rfl rfl (fun _ => rfl) ?_
    refine pq_c_ne (pt := 115) (pc' := 109) rfl rfl rfl (fun c1 => ?_) (fun c1 => ?_)
    · have hW := hW.1 c1
      refine pq_w [] trivial ?_
      exact J115 N102 (by omega) s hv hW
    · have hW := hW.2 c1
      refine pq_l (pc' := 110) rfl rfl rfl rfl rfl ?_
      refine pq_k (pc' := 112) (v := (0, 10)) rfl rfl rfl (fun _ => rfl) ?_
      refine pq_cVV (pc' := 115) rfl rfl rfl rfl rfl (c_emit7 L ys d s hv 10 (⟨by decide, by decide⟩ : iR 10) _ hW) (fun s2 hr => ?_)
      obtain ⟨s2v, hW⟩ := hr
      refine pq_w [] trivial ?_
      exact J115 N102 (by omega) s2 s2v hW
  have J51 : ∀ N51 : Nat, N51 ≤ N → ∀ (l1 : Int) (l1r : iR l1) (l2 : Int) (l2r : iR l2) (s : im_S) (hv : jI s), C_readOne7v_51 l1 l2 s Q → pq L ys d N51 rm_p_X7_readOne (51, [(0, (2, ((2 : Nat) : Int))), (1, (0, l1)), (2, (0, l2))], [], s) (fun r : im_Re => r.1 = none ∧ (jI r.2 ∧ Q r.2)) := by
    intro N51 hN51 l1 l1r l2 l2r s hv hW
    unfold C_readOne7v_51 at hW
    refine pq_l (pc' := 52) rfl rfl rfl rfl rfl ?_
    refine pq_gi (pc' := 55) rfl rfl rfl rfl rfl (fun r4 => ?_)
    refine pq_k (pc' := 57) (v := (0, 91)) rfl rfl rfl (fun _ => rfl) ?_
    refine pq_c_eq (pt := 67) (pc' := 60) rfl rfl rfl (fun c5 => ?_) (fun c5 => ?_)
    · have hW := hW.1 c5
      refine pq_l (pc' := 68) rfl rfl rfl rfl rfl ?_
      refine pq_k (pc' := 70) (v := (0, 10)) rfl rfl rfl (fun _ => rfl) ?_
      refine pq_c_lt (pt := 85) (pc' := 73) rfl rfl rfl (fun c6 => ?_) (fun c6 => ?_)
      · have hW := hW.1 c6
        refine pq_l (pc' := 86) rfl rfl rfl rfl rfl ?_
        refine pq_cVV (pc' := 89) rfl rfl rfl rfl rfl (c_step7v L ys d s hv  _ hW) (fun s7 hr => ?_)
        obtain ⟨s7v, hW⟩ := hr
        refine pq_l (pc' := 90) rfl rfl rfl rfl rfl ?_
        refine pq_l (pc' := 91) rfl rfl rfl rfl rfl ?_
        refine pq_k (pc' := 92) (v := (0, 1)) rfl rfl rfl (fun _ => rfl) ?_
        refine pq_add (pc' := 93) rfl rfl ?_
        refine pq_cVV (pc' := 96) rfl rfl rfl rfl rfl (hS.1 s7 s7v (w32 (l1 + 1)) (w32_r _) _ hW) (fun s9 hr => ?_)
        obtain ⟨s9v, hW⟩ := hr
        refine pq_l (pc' := 97) rfl rfl rfl rfl rfl ?_
        refine pq_k (pc' := 99) (v := (0, 93)) rfl rfl rfl (fun _ => rfl) ?_
        refine pq_cVV (pc' := 102) rfl rfl rfl rfl rfl (c_expect7v L ys d s9 s9v 93 (⟨by decide, by decide⟩ : iR 93) _ hW) (fun s11 hr => ?_)
        obtain ⟨s11v, hW⟩ := hr
        refine pq_w [(0, (2, ((2 : Nat) : Int))), (2, (0, l2))] ⟨rfl, rfl, trivial⟩ ?_
        exact J102 N51 (by omega) l2 l2r s11 s11v hW
      · have hW := hW.2 c6
        refine pq_l (pc' := 74) rfl rfl rfl rfl rfl ?_
        refine pq_k (pc' := 75) (v := (0, 3)) rfl rfl rfl (fun _ => rfl) ?_
        refine pq_l (pc' := 76) rfl rfl rfl rfl rfl ?_
        refine pq_gi (pc' := 79) rfl rfl rfl rfl rfl (fun r13 => ?_)
        refine pq_cVV (pc' := 82) rfl rfl rfl rfl rfl (c_fail7 L ys d s hv 3 (⟨by decide, by decide⟩ : iR 3) (cgf s 2 2) r13 _ hW) (fun s14 hr => ?_)
        obtain ⟨s14v, hW⟩ := hr
        refine pq_goto (pc' := 102) rfl rfl ?_
        refine pq_w [(0, (2, ((2 : Nat) : Int))), (2, (0, l2))] ⟨rfl, rfl, trivial⟩ ?_
        exact J102 N51 (by omega) l2 l2r s14 s14v hW
    · have hW := hW.2 c5
      refine pq_l (pc' := 61) rfl rfl rfl rfl rfl ?_
      refine pq_cVV (pc' := 64) rfl rfl rfl rfl rfl (hS.2.2.2.1 s hv  _ hW) (fun s16 hr => ?_)
      obtain ⟨s16v, hW⟩ := hr
      refine pq_goto (pc' := 102) rfl rfl ?_
      refine pq_w [(0, (2, ((2 : Nat) : Int))), (2, (0, l2))] ⟨rfl, rfl, trivial⟩ ?_
      exact J102 N51 (by omega) l2 l2r s16 s16v hW
  have J4 : ∀ (l1 : Int) (l1r : iR l1) (I4 : Int × Int × im_S → Prop) (hB4 : ∀ a : Int × Int × im_S, I4 a → C_readOne7v_4 I4 l1 a.1 a.2.1 a.2.2 Q), ∀ N4 : Nat, N4 ≤ N → ∀ (l2 : Int) (l2r : iR l2) (l3 : Int) (l3r : iR l3) (s : im_S) (hv : jI s), I4 (l2, l3, s) → pq L ys d N4 rm_p_X7_readOne (4, [(0, (2, ((2 : Nat) : Int))), (1, (0, l1)), (2, (0, l2)), (3, (0, l3))], [], s) (fun r : im_Re => r.1 = none ∧ (jI r.2 ∧ Q r.2)) := by
    intro l1 l1r I4 hB4 N4
    induction N4 using Nat.strongRecOn with
    | _ N4 ih4 =>
      intro hN4 l2 l2r l3 l3r s hv hI
      have hW : C_readOne7v_4 I4 l1 l2 l3 s Q := hB4 (l2, l3, s) hI
      have J45 : ∀ N45 : Nat, N45 ≤ N4 → ∀ (l2 : Int) (l2r : iR l2) (l3 : Int) (l3r : iR l3) (s : im_S) (hv : jI s), C_readOne7v_45 I4 l1 l2 l3 s Q → pq L ys d N45 rm_p_X7_readOne (45, [(0, (2, ((2 : Nat) : Int))), (1, (0, l1)), (2, (0, l2)), (3, (0, l3))], [], s) (fun r : im_Re => r.1 = none ∧ (jI r.2 ∧ Q r.2)) := by
        intro N45 hN45 l2 l2r l3 l3r s hv hW
        unfold C_readOne7v_45 at hW
        refine pq_inc (pc' := 48) rfl rfl rfl rfl ?_
        refine pq_gotoT (pc' := 4) rfl rfl (fun m18 m18l => ?_)
        refine pq_w [(0, (2, ((2 : Nat) : Int))), (1, (0, l1)), (2, (0, l2)), (3, (0, (w32 (l3 + 1))))] ⟨rfl, rfl, rfl, rfl, trivial⟩ ?_
        exact ih4 m18 (by omega) (by omega) l2 l2r (w32 (l3 + 1)) (w32_r _) s hv hW
      unfold C_readOne7v_4 at hW
      refine pq_l (pc' := 5) rfl rfl rfl rfl rfl ?_
      refine pq_k (pc' := 8) (v := (0, 400)) rfl rfl rfl (fun _ => rfl) ?_
      refine pq_c_ge (pt := 51) (pc' := 11) rfl rfl rfl (fun c19 => ?_) (fun c19 => ?_)
      · have hW := hW.1 c19
        refine pq_w [(0, (2, ((2 : Nat) : Int))), (1, (0, l1)), (2, (0, l2))] ⟨rfl, rfl, rfl, trivial⟩ ?_
        exact J51 N4 (by omega) l1 l1r l2 l2r s hv hW
      · have hW := hW.2 c19
        refine pq_l (pc' := 12) rfl rfl rfl rfl rfl ?_
        refine pq_gi (pc' := 15) rfl rfl rfl rfl rfl (fun r20 => ?_)
        refine pq_k (pc' := 17) (v := (0, 126)) rfl rfl rfl (fun _ => rfl) ?_
        refine pq_c_ne (pt := 51) (pc' := 20) rfl rfl rfl (fun c21 => ?_) (fun c21 => ?_)
        · have hW := hW.1 c21
          refine pq_w [(0, (2, ((2 : Nat) : Int))), (1, (0, l1)), (2, (0, l2))] ⟨rfl, rfl, rfl, trivial⟩ ?_
          exact J51 N4 (by omega) l1 l1r l2 l2r s hv hW
        · have hW := hW.2 c21
          refine pq_l (pc' := 21) rfl rfl rfl rfl rfl ?_
          refine pq_k (pc' := 23) (v := (0, 10)) rfl rfl rfl (fun _ => rfl) ?_
          refine pq_c_lt (pt := 38) (pc' := 26) rfl rfl rfl (fun c22 => ?_) (fun c22 => ?_)
          · have hW := hW.1 c22
            refine pq_inc (pc' := 41) rfl rfl rfl rfl ?_
            refine pq_l (pc' := 42) rfl rfl rfl rfl rfl ?_
            refine pq_cVV (pc' := 45) rfl rfl rfl rfl rfl (c_step7v L ys d s hv  _ hW) (fun s23 hr => ?_)
            obtain ⟨s23v, hW⟩ := hr
            refine pq_w [(0, (2, ((2 : Nat) : Int))), (1, (0, l1)), (2, (0, (w32 (l2 + 1)))), (3, (0, l3))] ⟨rfl, rfl, rfl, rfl, trivial⟩ ?_
            exact J45 N4 (by omega) (w32 (l2 + 1)) (w32_r _) l3 l3r s23 s23v hW
          · have hW := hW.2 c22
            refine pq_l (pc' := 27) rfl rfl rfl rfl rfl ?_
            refine pq_k (pc' := 28) (v := (0, 3)) rfl rfl rfl (fun _ => rfl) ?_
            refine pq_l (pc' := 29) rfl rfl rfl rfl rfl ?_
            refine pq_gi (pc' := 32) rfl rfl rfl rfl rfl (fun r25 => ?_)
            refine pq_cVV (pc' := 35) rfl rfl rfl rfl rfl (c_fail7 L ys d s hv 3 (⟨by decide, by decide⟩ : iR 3) (cgf s 2 2) r25 _ hW) (fun s26 hr => ?_)
            obtain ⟨s26v, hW⟩ := hr
            refine pq_goto (pc' := 45) rfl rfl ?_
            refine pq_w [(0, (2, ((2 : Nat) : Int))), (1, (0, l1)), (2, (0, l2)), (3, (0, l3))] ⟨rfl, rfl, rfl, rfl, trivial⟩ ?_
            exact J45 N4 (by omega) l2 l2r l3 l3r s26 s26v hW
  unfold C_readOne7v at hW
  refine pq_k (pc' := 1) (v := (0, 0)) rfl rfl rfl (fun _ => rfl) ?_
  refine pq_s (pc' := 2) rfl rfl rfl rfl rfl ?_
  refine pq_k (pc' := 3) (v := (0, 0)) rfl rfl rfl (fun _ => rfl) ?_
  refine pq_s (pc' := 4) rfl rfl rfl rfl rfl ?_
  refine pq_w [(0, (2, ((2 : Nat) : Int))), (1, (0, l1)), (2, (0, 0)), (3, (0, 0))] ⟨rfl, rfl, rfl, rfl, trivial⟩ ?_
  obtain ⟨I9, hI9, hB9⟩ := hW
  exact J4 l1 l1r I9 hB9 N (by omega) 0 (⟨by decide, by decide⟩ : iR 0) 0 (⟨by decide, by decide⟩ : iR 0) s hv hI9
def C_J0_isLatin1_aae02_0_4v (s : im_S) (Q : Int → im_S → Prop) : Prop := (∀ v201 : Int, v201 = (if (1 : Int) = 0 then 0 else (if ¬ ((0 : Int) = 0) then 0 else 1)) → (Q v201 s))
set_option maxRecDepth 16384 in
theorem c_J0_isLatin1_aae02_0_4v (L : Nat) (ys : Nat → Int32) (d : Nat) (s : im_S) (hv : jI s) (Q : Int → im_S → Prop) (hW : C_J0_isLatin1_aae02_0_4v s Q) : pcI L ys 0 d 230 [(4, 4)] s (fun z9 s9 => jI s9 ∧ iR z9 ∧ Q z9 s9) := by
  intro res hres
  refine pq_start (M := rm_p_J0_isLatin1_aae02) (Q := (fun r : im_Re => ∃ z, r.1 = some (0, z) ∧ (jI r.2 ∧ iR z ∧ Q z r.2))) om_J0_isLatin1_aae02 (fun d N => ?_) res hres
  refine pq_w [(0, (4, 4))] ⟨rfl, trivial⟩ ?_
  unfold C_J0_isLatin1_aae02_0_4v at hW
  refine pq_k (pc' := 3) (v := (0, 1)) rfl rfl rfl (fun _ => rfl) ?_
  have J202 : ∀ v201 : Int, iR v201 → ((Q v201 s)) → pq L ys d N rm_p_J0_isLatin1_aae02 (18, [], [(0, v201)], s) (fun r : im_Re => ∃ z, r.1 = some (0, z) ∧ (jI r.2 ∧ iR z ∧ Q z r.2)) := by
    intro v201 v201r hW
    exact pq_iret rfl ⟨_, rfl, hv, v201r, hW⟩
  refine pq_z_eq (pt := 17) (pc' := 6) rfl rfl rfl (fun c1 => ?_) (fun c1 => ?_)
  · refine pq_k (pc' := 18) (v := (0, 0)) rfl rfl rfl (fun _ => rfl) ?_
    refine pq_w [] trivial ?_
    exact J202 0 (⟨by decide, by decide⟩ : iR 0) (hW _ (by rw [if_pos c1]))
  · refine pq_l (pc' := 7) rfl rfl rfl rfl rfl ?_
    refine pq_x (pc' := 10) (st' := (0, (0 : Int)) :: _) rfl rfl rfl (fun _ => rfl) ?_
    refine pq_z_ne (pt := 17) (pc' := 13) rfl rfl rfl (fun c2 => ?_) (fun c2 => ?_)
    · refine pq_k (pc' := 18) (v := (0, 0)) rfl rfl rfl (fun _ => rfl) ?_
      refine pq_w [] trivial ?_
      exact J202 0 (⟨by decide, by decide⟩ : iR 0) (hW _ (by rw [if_neg (fun z => c1 z), if_pos c2]))
    · refine pq_k (pc' := 14) (v := (0, 1)) rfl rfl rfl (fun _ => rfl) ?_
      refine pq_goto (pc' := 18) rfl rfl ?_
      refine pq_w [] trivial ?_
      exact J202 1 (⟨by decide, by decide⟩ : iR 1) (hW _ (by rw [if_neg (fun z => c1 z), if_neg (by omega)]))
def C_J0_coder_7d493_0_4v (s : im_S) (Q : Int → im_S → Prop) : Prop := (∀ v201 : Int, v201 = (if (1 : Int) = 0 then 1 else (0 : Int)) → (Q v201 s))
set_option maxRecDepth 16384 in
theorem c_J0_coder_7d493_0_4v (L : Nat) (ys : Nat → Int32) (d : Nat) (s : im_S) (hv : jI s) (Q : Int → im_S → Prop) (hW : C_J0_coder_7d493_0_4v s Q) : pcI L ys 0 d 227 [(4, 4)] s (fun z9 s9 => jI s9 ∧ iR z9 ∧ Q z9 s9) := by
  intro res hres
  refine pq_start (M := rm_p_J0_coder_7d493) (Q := (fun r : im_Re => ∃ z, r.1 = some (0, z) ∧ (jI r.2 ∧ iR z ∧ Q z r.2))) om_J0_coder_7d493 (fun d N => ?_) res hres
  refine pq_w [(0, (4, 4))] ⟨rfl, trivial⟩ ?_
  unfold C_J0_coder_7d493_0_4v at hW
  refine pq_k (pc' := 3) (v := (0, 1)) rfl rfl rfl (fun _ => rfl) ?_
  have J202 : ∀ v201 : Int, iR v201 → ((Q v201 s)) → pq L ys d N rm_p_J0_coder_7d493 (14, [], [(0, v201)], s) (fun r : im_Re => ∃ z, r.1 = some (0, z) ∧ (jI r.2 ∧ iR z ∧ Q z r.2)) := by
    intro v201 v201r hW
    exact pq_iret rfl ⟨_, rfl, hv, v201r, hW⟩
  refine pq_z_eq (pt := 13) (pc' := 6) rfl rfl rfl (fun c1 => ?_) (fun c1 => ?_)
  · refine pq_k (pc' := 14) (v := (0, 1)) rfl rfl rfl (fun _ => rfl) ?_
    refine pq_w [] trivial ?_
    exact J202 1 (⟨by decide, by decide⟩ : iR 1) (hW _ (by rw [if_pos c1]))
  · refine pq_l (pc' := 7) rfl rfl rfl rfl rfl ?_
    refine pq_x (pc' := 10) (st' := (0, (0 : Int)) :: _) rfl rfl rfl (fun _ => rfl) ?_
    refine pq_goto (pc' := 14) rfl rfl ?_
    refine pq_w [] trivial ?_
    exact J202 (0 : Int) (⟨by decide, by decide⟩ : iR 0) (hW _ (by rw [if_neg (fun z => c1 z)]))
def C_J0_length_8abf5_0_4v (s : im_S) (Q : Int → im_S → Prop) : Prop := (C_J0_coder_7d493_0_4v s (fun z2 s1 => (Q (shrI 3 z2) s1)))
set_option maxRecDepth 16384 in
theorem c_J0_length_8abf5_0_4v (L : Nat) (ys : Nat → Int32) (d : Nat) (s : im_S) (hv : jI s) (Q : Int → im_S → Prop) (hW : C_J0_length_8abf5_0_4v s Q) : pcI L ys 0 d 231 [(4, 4)] s (fun z9 s9 => jI s9 ∧ iR z9 ∧ Q z9 s9) := by
  intro res hres
  refine pq_start (M := rm_p_J0_length_8abf5) (Q := (fun r : im_Re => ∃ z, r.1 = some (0, z) ∧ (jI r.2 ∧ iR z ∧ Q z r.2))) om_J0_length_8abf5 (fun d N => ?_) res hres
  refine pq_w [(0, (4, 4))] ⟨rfl, trivial⟩ ?_
  unfold C_J0_length_8abf5_0_4v at hW
  refine pq_l (pc' := 1) rfl rfl rfl rfl rfl ?_
  refine pq_x (pc' := 4) (st' := (4, 5) :: _) rfl rfl rfl (fun _ => rfl) ?_
  refine pq_x (pc' := 5) (st' := (0, 3) :: _) rfl rfl rfl (fun _ => rfl) ?_
  refine pq_l (pc' := 6) rfl rfl rfl rfl rfl ?_
  refine pq_cFI (pc' := 9) rfl rfl rfl rfl rfl (c_J0_coder_7d493_0_4v L ys d s hv  _ hW) (fun z2 s1 hr => ?_)
  obtain ⟨s1v, z2r, hW⟩ := hr
  refine pq_ishr (pc' := 10) rfl rfl ?_
  exact pq_iret rfl ⟨_, rfl, s1v, (shrI_r _ _), hW⟩
def C_J1_indexOfChar_4cfef_0_5v_7 (K7 : Int × im_S → Prop) (l3 : Int) (l4 : Int) (l5 : Int) (s : im_S) (Q : Int → im_S → Prop) : Prop := ((l3 ≤ l5 → (Q (-1) s)) ∧ (¬ (l3 ≤ l5) → ((¬ ((txv 5 l5) = l4) → (K7 ((w32 (l5 + 1)), s))) ∧ ((txv 5 l5) = l4 → (Q l5 s)))))
def C_J1_indexOfChar_4cfef_0_5v (l1 : Int) (l2 : Int) (l3 : Int) (s : im_S) (Q : Int → im_S → Prop) : Prop := (ploop (fun (K : Int × im_S → Prop) (a : Int × im_S) => C_J1_indexOfChar_4cfef_0_5v_7 K l3 (c8 l1) a.1 a.2 Q) (l2, s))
set_option maxRecDepth 16384 in
theorem c_J1_indexOfChar_4cfef_0_5v (L : Nat) (ys : Nat → Int32) (d : Nat) (s : im_S) (hv : jI s) (l1 : Int) (l1r : iR l1) (l2 : Int) (l2r : iR l2) (l3 : Int) (l3r : iR l3) (Q : Int → im_S → Prop) (hW : C_J1_indexOfChar_4cfef_0_5v l1 l2 l3 s Q) : pcI L ys 0 d 234 [(4, 5), (0, l1), (0, l2), (0, l3)] s (fun z9 s9 => jI s9 ∧ iR z9 ∧ Q z9 s9) := by
  intro res hres
  refine pq_start (M := rm_p_J1_indexOfChar_4cfef) (Q := (fun r : im_Re => ∃ z, r.1 = some (0, z) ∧ (jI r.2 ∧ iR z ∧ Q z r.2))) om_J1_indexOfChar_4cfef (fun d N => ?_) res hres
  refine pq_w [(0, (4, 5)), (1, (0, l1)), (2, (0, l2)), (3, (0, l3))] ⟨rfl, rfl, rfl, rfl, trivial⟩ ?_
  have J7 : ∀ (l3 : Int) (l3r : iR l3) (l4 : Int) (l4r : iR l4) (I7 : Int × im_S → Prop) (hB7 : ∀ a : Int × im_S, I7 a → C_J1_indexOfChar_4cfef_0_5v_7 I7 l3 l4 a.1 a.2 Q), ∀ N7 : Nat, N7 ≤ N → ∀ (l5 : Int) (l5r : iR l5) (s : im_S) (hv : jI s), I7 (l5, s) → pq L ys d N7 rm_p_J1_indexOfChar_4cfef (7, [(0, (4, 5)), (3, (0, l3)), (4, (0, l4)), (5, (0, l5))], [], s) (fun r : im_Re => ∃ z, r.1 = some (0, z) ∧ (jI r.2 ∧ iR z ∧ Q z r.2)) := by
    intro l3 l3r l4 l4r I7 hB7 N7
    induction N7 using Nat.strongRecOn with
    | _ N7 ih7 =>
      intro hN7 l5 l5r s hv hI
      have hW : C_J1_indexOfChar_4cfef_0_5v_7 I7 l3 l4 l5 s Q := hB7 (l5, s) hI
      unfold C_J1_indexOfChar_4cfef_0_5v_7 at hW
      refine pq_l (pc' := 9) rfl rfl rfl rfl rfl ?_
      refine pq_l (pc' := 10) rfl rfl rfl rfl rfl ?_
      refine pq_c_ge (pt := 31) (pc' := 13) rfl rfl rfl (fun c1 => ?_) (fun c1 => ?_)
      · have hW := hW.1 c1
        refine pq_k (pc' := 32) (v := (0, (-1))) rfl rfl rfl (fun _ => rfl) ?_
        exact pq_iret rfl ⟨_, rfl, hv, (⟨by decide, by decide⟩ : iR (-1)), hW⟩
      · have hW := hW.2 c1
        refine pq_l (pc' := 14) rfl rfl rfl rfl rfl ?_
        refine pq_l (pc' := 16) rfl rfl rfl rfl rfl ?_
        refine pq_tv (pc' := 17) rfl rfl ?_
        refine pq_l (pc' := 19) rfl rfl rfl rfl rfl ?_
        refine pq_c_ne (pt := 25) (pc' := 22) rfl rfl rfl (fun c2 => ?_) (fun c2 => ?_)
        · have hW := hW.1 c2
          refine pq_inc (pc' := 28) rfl rfl rfl rfl ?_
          refine pq_gotoT (pc' := 7) rfl rfl (fun m3 m3l => ?_)
          refine pq_w [(0, (4, 5)), (3, (0, l3)), (4, (0, l4)), (5, (0, (w32 (l5 + 1))))] ⟨rfl, rfl, rfl, rfl, trivial⟩ ?_
          exact ih7 m3 (by omega) (by omega) (w32 (l5 + 1)) (w32_r _) s hv hW
        · have hW := hW.2 c2
          refine pq_l (pc' := 24) rfl rfl rfl rfl rfl ?_
          exact pq_iret rfl ⟨_, rfl, hv, l5r, hW⟩
  unfold C_J1_indexOfChar_4cfef_0_5v at hW
  refine pq_l (pc' := 1) rfl rfl rfl rfl rfl ?_
  refine pq_i2b (pc' := 2) rfl rfl ?_
  refine pq_s (pc' := 4) rfl rfl rfl rfl rfl ?_
  refine pq_l (pc' := 5) rfl rfl rfl rfl rfl ?_
  refine pq_s (pc' := 7) rfl rfl rfl rfl rfl ?_
  refine pq_w [(0, (4, 5)), (3, (0, l3)), (4, (0, (c8 l1))), (5, (0, l2))] ⟨rfl, rfl, rfl, rfl, trivial⟩ ?_
  obtain ⟨I9, hI9, hB9⟩ := hW
  exact J7 l3 l3r (c8 l1) (c8_r _) I9 hB9 N (by omega) l2 l2r s hv hI9
def C_J1_indexOf_4cfef_0_5v (l1 : Int) (l2 : Int) (l3 : Int) (s : im_S) (Q : Int → im_S → Prop) : Prop := (C_J1_canEncode_9a6ad l1 s (fun z2 s1 => ((¬ (z2 = 0) → (C_J9_max_7cf53 l2 0 s1 (fun z5 s4 => (C_J9_min_7cf53 l3 3 s4 (fun z7 s6 => ((z5 < z7 → (C_J1_indexOfChar_4cfef_0_5v l1 z5 z7 s6 (fun z10 s9 => (Q z10 s9)))) ∧ (¬ (z5 < z7) → (Q (-1) s6)))))))) ∧ (z2 = 0 → (Q (-1) s1)))))
set_option maxRecDepth 16384 in
theorem c_J1_indexOf_4cfef_0_5v (L : Nat) (ys : Nat → Int32) (d : Nat) (s : im_S) (hv : jI s) (l1 : Int) (l1r : iR l1) (l2 : Int) (l2r : iR l2) (l3 : Int) (l3r : iR l3) (Q : Int → im_S → Prop) (hW : C_J1_indexOf_4cfef_0_5v l1 l2 l3 s Q) : pcI L ys 0 d 235 [(4, 5), (0, l1), (0, l2), (0, l3)] s (fun z9 s9 => jI s9 ∧ iR z9 ∧ Q z9 s9) := by
  intro res hres
  refine pq_start (M := rm_p_J1_indexOf_4cfef) (Q := (fun r : im_Re => ∃ z, r.1 = some (0, z) ∧ (jI r.2 ∧ iR z ∧ Q z r.2))) om_J1_indexOf_4cfef (fun d N => ?_) res hres
  refine pq_w [(0, (4, 5)), (1, (0, l1)), (2, (0, l2)), (3, (0, l3))] ⟨rfl, rfl, rfl, rfl, trivial⟩ ?_
  unfold C_J1_indexOf_4cfef_0_5v at hW
  refine pq_l (pc' := 1) rfl rfl rfl rfl rfl ?_
  refine pq_cSI (pc' := 4) rfl rfl rfl rfl rfl (c_J1_canEncode_9a6ad L ys d s hv l1 l1r _ hW) (fun z2 s1 hr => ?_)
  obtain ⟨s1v, z2r, hW⟩ := hr
  refine pq_z_ne (pt := 9) (pc' := 7) rfl rfl rfl (fun c3 => ?_) (fun c3 => ?_)
  · have hW := hW.1 c3
    refine pq_l (pc' := 10) rfl rfl rfl rfl rfl ?_
    refine pq_k (pc' := 11) (v := (0, 0)) rfl rfl rfl (fun _ => rfl) ?_
    refine pq_cSI (pc' := 14) rfl rfl rfl rfl rfl (c_J9_max_7cf53 L ys d s1 s1v l2 l2r 0 (⟨by decide, by decide⟩ : iR 0) _ hW) (fun z5 s4 hr => ?_)
    obtain ⟨s4v, z5r, hW⟩ := hr
    refine pq_s (pc' := 15) rfl rfl rfl rfl rfl ?_
    refine pq_l (pc' := 16) rfl rfl rfl rfl rfl ?_
    refine pq_l (pc' := 17) rfl rfl rfl rfl rfl ?_
    refine pq_x (pc' := 18) (st' := (0, 3) :: _) rfl rfl rfl (fun _ => rfl) ?_
    refine pq_cSI (pc' := 21) rfl rfl rfl rfl rfl (c_J9_min_7cf53 L ys d s4 s4v l3 l3r 3 (⟨by decide, by decide⟩ : iR 3) _ hW) (fun z7 s6 hr => ?_)
    obtain ⟨s6v, z7r, hW⟩ := hr
    refine pq_s (pc' := 22) rfl rfl rfl rfl rfl ?_
    refine pq_l (pc' := 23) rfl rfl rfl rfl rfl ?_
    refine pq_l (pc' := 24) rfl rfl rfl rfl rfl ?_
    refine pq_c_lt (pt := 29) (pc' := 27) rfl rfl rfl (fun c8 => ?_) (fun c8 => ?_)
    · have hW := hW.1 c8
      refine pq_l (pc' := 30) rfl rfl rfl rfl rfl ?_
      refine pq_l (pc' := 31) rfl rfl rfl rfl rfl ?_
      refine pq_l (pc' := 32) rfl rfl rfl rfl rfl ?_
      refine pq_l (pc' := 33) rfl rfl rfl rfl rfl ?_
      refine pq_cSI (pc' := 36) rfl rfl rfl rfl rfl (c_J1_indexOfChar_4cfef_0_5v L ys d s6 s6v l1 l1r z5 z5r z7 z7r _ hW) (fun z10 s9 hr => ?_)
      obtain ⟨s9v, z10r, hW⟩ := hr
      exact pq_iret rfl ⟨_, rfl, s9v, z10r, hW⟩
    · have hW := hW.2 c8
      refine pq_k (pc' := 28) (v := (0, (-1))) rfl rfl rfl (fun _ => rfl) ?_
      exact pq_iret rfl ⟨_, rfl, s6v, (⟨by decide, by decide⟩ : iR (-1)), hW⟩
  · have hW := hW.2 c3
    refine pq_k (pc' := 8) (v := (0, (-1))) rfl rfl rfl (fun _ => rfl) ?_
    exact pq_iret rfl ⟨_, rfl, s1v, (⟨by decide, by decide⟩ : iR (-1)), hW⟩
def C_J0_indexOf_7cf53_0_4v_36 (k0 : Int) (s : im_S) (Q : Int → im_S → Prop) : Prop := (Q k0 s)
def C_J0_indexOf_7cf53_0_4v (l1 : Int) (l2 : Int) (s : im_S) (Q : Int → im_S → Prop) : Prop := (C_J0_isLatin1_aae02_0_4v s (fun z2 s1 => ((z2 = 0 → (C_J0_length_8abf5_0_4v s1 (fun z5 s4 => False))) ∧ (¬ (z2 = 0) → (C_J0_length_8abf5_0_4v s1 (fun z7 s6 => (C_J1_indexOf_4cfef_0_5v l1 l2 z7 s6 (fun z9 s8 => (C_J0_indexOf_7cf53_0_4v_36 z9 s8 Q)))))))))
set_option maxRecDepth 16384 in
theorem c_J0_indexOf_7cf53_0_4v (L : Nat) (ys : Nat → Int32) (d : Nat) (s : im_S) (hv : jI s) (l1 : Int) (l1r : iR l1) (l2 : Int) (l2r : iR l2) (Q : Int → im_S → Prop) (hW : C_J0_indexOf_7cf53_0_4v l1 l2 s Q) : pcI L ys 0 d 229 [(4, 4), (0, l1), (0, l2)] s (fun z9 s9 => jI s9 ∧ iR z9 ∧ Q z9 s9) := by
  intro res hres
  refine pq_start (M := rm_p_J0_indexOf_7cf53) (Q := (fun r : im_Re => ∃ z, r.1 = some (0, z) ∧ (jI r.2 ∧ iR z ∧ Q z r.2))) om_J0_indexOf_7cf53 (fun d N => ?_) res hres
  refine pq_w [(0, (4, 4)), (1, (0, l1)), (2, (0, l2))] ⟨rfl, rfl, rfl, trivial⟩ ?_
  have J36 : ∀ N36 : Nat, N36 ≤ N → ∀ (k0 : Int) (k0r : iR k0) (s : im_S) (hv : jI s), C_J0_indexOf_7cf53_0_4v_36 k0 s Q → pq L ys d N36 rm_p_J0_indexOf_7cf53 (36, [], [(0, k0)], s) (fun r : im_Re => ∃ z, r.1 = some (0, z) ∧ (jI r.2 ∧ iR z ∧ Q z r.2)) := by
    intro N36 hN36 k0 k0r s hv hW
    unfold C_J0_indexOf_7cf53_0_4v_36 at hW
    exact pq_iret rfl ⟨_, rfl, hv, k0r, hW⟩
  unfold C_J0_indexOf_7cf53_0_4v at hW
  refine pq_l (pc' := 1) rfl rfl rfl rfl rfl ?_
  refine pq_cFI (pc' := 4) rfl rfl rfl rfl rfl (c_J0_isLatin1_aae02_0_4v L ys d s hv  _ hW) (fun z2 s1 hr => ?_)
  obtain ⟨s1v, z2r, hW⟩ := hr
  refine pq_z_eq (pt := 23) (pc' := 7) rfl rfl rfl (fun c3 => ?_) (fun c3 => ?_)
  · have hW := hW.1 c3
    refine pq_l (pc' := 24) rfl rfl rfl rfl rfl ?_
    refine pq_x (pc' := 27) (st' := (4, 5) :: _) rfl rfl rfl (fun _ => rfl) ?_
    refine pq_l (pc' := 28) rfl rfl rfl rfl rfl ?_
    refine pq_l (pc' := 29) rfl rfl rfl rfl rfl ?_
    refine pq_l (pc' := 30) rfl rfl rfl rfl rfl ?_
    refine pq_cFI (pc' := 33) rfl rfl rfl rfl rfl (c_J0_length_8abf5_0_4v L ys d s1 s1v  _ hW) (fun z5 s4 hr => ?_)
    obtain ⟨s4v, z5r, hW⟩ := hr
    exact hW.elim
  · have hW := hW.2 c3
    refine pq_l (pc' := 8) rfl rfl rfl rfl rfl ?_
    refine pq_x (pc' := 11) (st' := (4, 5) :: _) rfl rfl rfl (fun _ => rfl) ?_
    refine pq_l (pc' := 12) rfl rfl rfl rfl rfl ?_
    refine pq_l (pc' := 13) rfl rfl rfl rfl rfl ?_
    refine pq_l (pc' := 14) rfl rfl rfl rfl rfl ?_
    refine pq_cFI (pc' := 17) rfl rfl rfl rfl rfl (c_J0_length_8abf5_0_4v L ys d s1 s1v  _ hW) (fun z7 s6 hr => ?_)
    obtain ⟨s6v, z7r, hW⟩ := hr
    refine pq_cSI (pc' := 20) rfl rfl rfl rfl rfl (c_J1_indexOf_4cfef_0_5v L ys d s6 s6v l1 l1r l2 l2r z7 z7r _ hW) (fun z9 s8 hr => ?_)
    obtain ⟨s8v, z9r, hW⟩ := hr
    refine pq_goto (pc' := 36) rfl rfl ?_
    refine pq_w [] trivial ?_
    exact J36 N (by omega) z9 z9r s8 s8v hW
def C_J0_indexOf_0f7a4_0_4v (l1 : Int) (s : im_S) (Q : Int → im_S → Prop) : Prop := (C_J0_indexOf_7cf53_0_4v l1 0 s (fun z2 s1 => (Q z2 s1)))
set_option maxRecDepth 16384 in
theorem c_J0_indexOf_0f7a4_0_4v (L : Nat) (ys : Nat → Int32) (d : Nat) (s : im_S) (hv : jI s) (l1 : Int) (l1r : iR l1) (Q : Int → im_S → Prop) (hW : C_J0_indexOf_0f7a4_0_4v l1 s Q) : pcI L ys 0 d 228 [(4, 4), (0, l1)] s (fun z9 s9 => jI s9 ∧ iR z9 ∧ Q z9 s9) := by
  intro res hres
  refine pq_start (M := rm_p_J0_indexOf_0f7a4) (Q := (fun r : im_Re => ∃ z, r.1 = some (0, z) ∧ (jI r.2 ∧ iR z ∧ Q z r.2))) om_J0_indexOf_0f7a4 (fun d N => ?_) res hres
  refine pq_w [(0, (4, 4)), (1, (0, l1))] ⟨rfl, rfl, trivial⟩ ?_
  unfold C_J0_indexOf_0f7a4_0_4v at hW
  refine pq_l (pc' := 1) rfl rfl rfl rfl rfl ?_
  refine pq_l (pc' := 2) rfl rfl rfl rfl rfl ?_
  refine pq_k (pc' := 3) (v := (0, 0)) rfl rfl rfl (fun _ => rfl) ?_
  refine pq_cFI (pc' := 6) rfl rfl rfl rfl rfl (c_J0_indexOf_7cf53_0_4v L ys d s hv l1 l1r 0 (⟨by decide, by decide⟩ : iR 0) _ hW) (fun z2 s1 hr => ?_)
  obtain ⟨s1v, z2r, hW⟩ := hr
  exact pq_iret rfl ⟨_, rfl, s1v, z2r, hW⟩
def C_readAtom7v_140 (s : im_S) (Q : im_S → Prop) : Prop := (Q s)
def C_readAtom7v_79 (l1 : Int) (s : im_S) (Q : im_S → Prop) : Prop := ((¬ ((cgf s 2 4) = 0) → (C_readAtom7v_140 s Q)) ∧ ((cgf s 2 4) = 0 → ((10 ≤ (cgf s 2 11) → (C_readAtom7v_140 s Q)) ∧ (¬ (10 ≤ (cgf s 2 11)) → (C_slot7 0 s (fun z8 s7 => (C_copy6 (61 + 2 * ((cgf s 2 11)).toNat) z8 s7 (fun s9 => ((0 ≤ (cgf s9 2 11) ∧ (cgf s9 2 11) < gln 81) → ∀ s12, s12 = cpa s9 81 (cgf s9 2 11) l1 → (C_emit7 (cgf s12 2 11) s12 (fun s14 => (∀ s17, s17 = cpf s14 2 11 (w32 ((cgf s14 2 11) + 1)) → (C_readAtom7v_140 s17 Q)))))))))))))
def C_readAtom7v (s : im_S) (Q : im_S → Prop) : Prop := (CV_readSum 0 0 s (fun s18 => (C_J0_indexOf_0f7a4_0_4v (c16 (cgf s18 2 3)) s18 (fun z22 s21 => ((0 ≤ z22 → (((cgf s21 2 11) < 10 → (C_step7v s21 (fun s27 => (CV_readSum 1 0 s27 (fun s29 => (C_slot7 0 s29 (fun z32 s31 => (C_slot7 1 s31 (fun z34 s33 => (C_addTo7 z32 z34 (-1) (cgf s21 2 2) s33 (fun s35 => (C_readAtom7v_79 z22 s35 Q)))))))))))) ∧ (¬ ((cgf s21 2 11) < 10) → (C_fail7 3 (cgf s21 2 2) s21 (fun s37 => (C_readAtom7v_79 z22 s37 Q)))))) ∧ (¬ (0 ≤ z22) → (C_fail7 2 (cgf s21 2 2) s21 (fun s39 => (C_readAtom7v_79 z22 s39 Q)))))))))
set_option maxRecDepth 16384 in
theorem c_readAtom7v (L : Nat) (ys : Nat → Int32) (d : Nat) (hS : RV L ys d) (s : im_S) (hv : jI s) (Q : im_S → Prop) (hW : C_readAtom7v s Q) : pcV L ys (d + 1) 193 [(2, ((2 : Nat) : Int))] s (fun s9 => jI s9 ∧ Q s9) := by
  intro res hres
  refine pq_start_s (M := rm_p_X7_readAtom) (Q := (fun r : im_Re => r.1 = none ∧ (jI r.2 ∧ Q r.2))) om_X7_readAtom (fun N => ?_) res hres
  refine pq_w [(0, (2, ((2 : Nat) : Int)))] ⟨rfl, trivial⟩ ?_
  have J140 : ∀ N140 : Nat, N140 ≤ N → ∀ (s : im_S) (hv : jI s), C_readAtom7v_140 s Q → pq L ys d N140 rm_p_X7_readAtom (140, [], [], s) (fun r : im_Re => r.1 = none ∧ (jI r.2 ∧ Q r.2)) := by
    intro N140 hN140 s hv hW
    unfold C_readAtom7v_140 at hW
    exact pq_vret rfl ⟨rfl, hv, hW⟩
  have J79 : ∀ N79 : Nat, N79 ≤ N → ∀ (l1 : Int) (l1r : iR l1) (s : im_S) (hv : jI s), C_readAtom7v_79 l1 s Q → pq L ys d N79 rm_p_X7_readAtom (79, [(0, (2, ((2 : Nat) : Int))), (1, (0, l1))], [], s) (fun r : im_Re => r.1 = none ∧ (jI r.2 ∧ Q r.2)) := by
    intro N79 hN79 l1 l1r s hv hW
    unfold C_readAtom7v_79 at hW
    refine pq_l (pc' := 80) rfl rfl rfl rfl rfl ?_
    refine pq_gi (pc' := 83) rfl rfl rfl rfl rfl (fun r1 => ?_)
    refine pq_z_ne (pt := 140) (pc' := 86) rfl rfl rfl (fun c2 => ?_) (fun c2 => ?_)
    · have hW := hW.1 c2
      refine pq_w [] trivial ?_
      exact J140 N79 (by omega) s hv hW
    · have hW := hW.2 c2
      refine pq_l (pc' := 87) rfl rfl rfl rfl rfl ?_
      refine pq_gi (pc' := 90) rfl rfl rfl rfl rfl (fun r3 => ?_)
      refine pq_k (pc' := 92) (v := (0, 10)) rfl rfl rfl (fun _ => rfl) ?_
      refine pq_c_ge (pt := 140) (pc' := 95) rfl rfl rfl (fun c4 => ?_) (fun c4 => ?_)
      · have hW := hW.1 c4
        refine pq_w [] trivial ?_
        exact J140 N79 (by omega) s hv hW
      · have hW := hW.2 c4
        refine pq_l (pc' := 96) rfl rfl rfl rfl rfl ?_
        refine pq_gr (pc' := 99) (c := 60) (v := 60) rfl rfl rfl rfl rfl rfl hv ?_
        refine pq_l (pc' := 100) rfl rfl rfl rfl rfl ?_
        refine pq_gi (pc' := 103) rfl rfl rfl rfl rfl (fun r5 => ?_)
        refine pq_aa (pc' := 104) (b := 61) (k := 2) (n := 10) (m := 10) rfl rfl rfl rfl rfl hv (fun r6a r6b => ?_)
        refine pq_l (pc' := 105) rfl rfl rfl rfl rfl ?_
        refine pq_k (pc' := 106) (v := (0, 0)) rfl rfl rfl (fun _ => rfl) ?_
        refine pq_cVR (pc' := 109) rfl rfl rfl rfl rfl (c_slot7 L ys d s hv 0 (⟨by decide, by decide⟩ : iR 0) _ hW) (fun z8 s7 hr => ?_)
        obtain ⟨s7v, hW⟩ := hr
        refine pq_cVV (pc' := 112) rfl rfl rfl rfl rfl (c_copy6 L ys d s7 s7v (61 + 2 * ((cgf s 2 11)).toNat) z8 _ hW) (fun s9 hr => ?_)
        obtain ⟨s9v, hW⟩ := hr
        refine pq_l (pc' := 113) rfl rfl rfl rfl rfl ?_
        refine pq_gr (pc' := 116) (c := 81) (v := 81) rfl rfl rfl rfl rfl rfl s9v ?_
        refine pq_l (pc' := 117) rfl rfl rfl rfl rfl ?_
        refine pq_gi (pc' := 120) rfl rfl rfl rfl rfl (fun r11 => ?_)
        refine pq_l (pc' := 121) rfl rfl rfl rfl rfl ?_
        refine pq_is (pc' := 122) rfl rfl (by decide) (by decide) s9v (fun s12a s12b s12 s12e s12v => ?_)
        have hW := hW ⟨s12a, s12b⟩ s12 s12e
        refine pq_l (pc' := 123) rfl rfl rfl rfl rfl ?_
        refine pq_l (pc' := 124) rfl rfl rfl rfl rfl ?_
        refine pq_gi (pc' := 127) rfl rfl rfl rfl rfl (fun r13 => ?_)
        refine pq_cVV (pc' := 130) rfl rfl rfl rfl rfl (c_emit7 L ys d s12 s12v (cgf s12 2 11) r13 _ hW) (fun s14 hr => ?_)
        obtain ⟨s14v, hW⟩ := hr
        refine pq_l (pc' := 131) rfl rfl rfl rfl rfl ?_
        refine pq_x (pc' := 132) rfl rfl rfl (fun _ => rfl) ?_
        refine pq_gi (pc' := 135) rfl rfl rfl rfl rfl (fun r16 => ?_)
        refine pq_k (pc' := 136) (v := (0, 1)) rfl rfl rfl (fun _ => rfl) ?_
        refine pq_add (pc' := 137) rfl rfl ?_
        refine pq_pX (pc' := 140) rfl rfl rfl rfl (fun e => absurd e (by decide)) (fun e => absurd e (by decide)) s14v (fun s17 s17e s17v => ?_)
        have hW := hW s17 s17e
        refine pq_w [] trivial ?_
        exact J140 N79 (by omega) s17 s17v hW
  unfold C_readAtom7v at hW
  refine pq_l (pc' := 1) rfl rfl rfl rfl rfl ?_
  refine pq_k (pc' := 2) (v := (0, 0)) rfl rfl rfl (fun _ => rfl) ?_
  refine pq_k (pc' := 3) (v := (0, 0)) rfl rfl rfl (fun _ => rfl) ?_
  refine pq_cVV (pc' := 6) rfl rfl rfl rfl rfl (hS.2.2.2.2.1 s hv 0 (⟨by decide, by decide⟩ : iR 0) 0 (⟨by decide, by decide⟩ : iR 0) _ hW) (fun s18 hr => ?_)
  obtain ⟨s18v, hW⟩ := hr
  refine pq_k (pc' := 8) (v := (4, 4)) rfl rfl rfl (fun _ => rfl) ?_
  refine pq_l (pc' := 9) rfl rfl rfl rfl rfl ?_
  refine pq_gi (pc' := 12) rfl rfl rfl rfl rfl (fun r20 => ?_)
  refine pq_i2c (pc' := 13) rfl rfl ?_
  refine pq_cFI (pc' := 16) rfl rfl rfl rfl rfl (c_J0_indexOf_0f7a4_0_4v L ys d s18 s18v (c16 (cgf s18 2 3)) (c16_r _) _ hW) (fun z22 s21 hr => ?_)
  obtain ⟨s21v, z22r, hW⟩ := hr
  refine pq_s (pc' := 17) rfl rfl rfl rfl rfl ?_
  refine pq_l (pc' := 18) rfl rfl rfl rfl rfl ?_
  refine pq_gi (pc' := 21) rfl rfl rfl rfl rfl (fun r23 => ?_)
  refine pq_s (pc' := 22) rfl rfl rfl rfl rfl ?_
  refine pq_l (pc' := 23) rfl rfl rfl rfl rfl ?_
  refine pq_z_ge (pt := 35) (pc' := 26) rfl rfl rfl (fun c24 => ?_) (fun c24 => ?_)
  · have hW := hW.1 c24
    refine pq_l (pc' := 36) rfl rfl rfl rfl rfl ?_
    refine pq_gi (pc' := 39) rfl rfl rfl rfl rfl (fun r25 => ?_)
    refine pq_k (pc' := 41) (v := (0, 10)) rfl rfl rfl (fun _ => rfl) ?_
    refine pq_c_lt (pt := 53) (pc' := 44) rfl rfl rfl (fun c26 => ?_) (fun c26 => ?_)
    · have hW := hW.1 c26
      refine pq_l (pc' := 54) rfl rfl rfl rfl rfl ?_
      refine pq_cVV (pc' := 57) rfl rfl rfl rfl rfl (c_step7v L ys d s21 s21v  _ hW) (fun s27 hr => ?_)
      obtain ⟨s27v, hW⟩ := hr
      refine pq_l (pc' := 58) rfl rfl rfl rfl rfl ?_
      refine pq_k (pc' := 59) (v := (0, 1)) rfl rfl rfl (fun _ => rfl) ?_
      refine pq_k (pc' := 60) (v := (0, 0)) rfl rfl rfl (fun _ => rfl) ?_
      refine pq_cVV (pc' := 63) rfl rfl rfl rfl rfl (hS.2.2.2.2.1 s27 s27v 1 (⟨by decide, by decide⟩ : iR 1) 0 (⟨by decide, by decide⟩ : iR 0) _ hW) (fun s29 hr => ?_)
      obtain ⟨s29v, hW⟩ := hr
      refine pq_l (pc' := 64) rfl rfl rfl rfl rfl ?_
      refine pq_l (pc' := 65) rfl rfl rfl rfl rfl ?_
      refine pq_k (pc' := 66) (v := (0, 0)) rfl rfl rfl (fun _ => rfl) ?_
      refine pq_cVR (pc' := 69) rfl rfl rfl rfl rfl (c_slot7 L ys d s29 s29v 0 (⟨by decide, by decide⟩ : iR 0) _ hW) (fun z32 s31 hr => ?_)
      obtain ⟨s31v, hW⟩ := hr
      refine pq_l (pc' := 70) rfl rfl rfl rfl rfl ?_
      refine pq_k (pc' := 71) (v := (0, 1)) rfl rfl rfl (fun _ => rfl) ?_
      refine pq_cVR (pc' := 74) rfl rfl rfl rfl rfl (c_slot7 L ys d s31 s31v 1 (⟨by decide, by decide⟩ : iR 1) _ hW) (fun z34 s33 hr => ?_)
      obtain ⟨s33v, hW⟩ := hr
      refine pq_k (pc' := 75) (v := (0, (-1))) rfl rfl rfl (fun _ => rfl) ?_
      refine pq_l (pc' := 76) rfl rfl rfl rfl rfl ?_
      refine pq_cVV (pc' := 79) rfl rfl rfl rfl rfl (c_addTo7 L ys d s33 s33v z32 z34 (-1) (⟨by decide, by decide⟩ : iR (-1)) (cgf s21 2 2) r23 _ hW) (fun s35 hr => ?_)
      obtain ⟨s35v, hW⟩ := hr
      refine pq_w [(0, (2, ((2 : Nat) : Int))), (1, (0, z22))] ⟨rfl, rfl, trivial⟩ ?_
      exact J79 N (by omega) z22 z22r s35 s35v hW
    · have hW := hW.2 c26
      refine pq_l (pc' := 45) rfl rfl rfl rfl rfl ?_
      refine pq_k (pc' := 46) (v := (0, 3)) rfl rfl rfl (fun _ => rfl) ?_
      refine pq_l (pc' := 47) rfl rfl rfl rfl rfl ?_
      refine pq_cVV (pc' := 50) rfl rfl rfl rfl rfl (c_fail7 L ys d s21 s21v 3 (⟨by decide, by decide⟩ : iR 3) (cgf s21 2 2) r23 _ hW) (fun s37 hr => ?_)
      obtain ⟨s37v, hW⟩ := hr
      refine pq_goto (pc' := 79) rfl rfl ?_
      refine pq_w [(0, (2, ((2 : Nat) : Int))), (1, (0, z22))] ⟨rfl, rfl, trivial⟩ ?_
      exact J79 N (by omega) z22 z22r s37 s37v hW
  · have hW := hW.2 c24
    refine pq_l (pc' := 27) rfl rfl rfl rfl rfl ?_
    refine pq_k (pc' := 28) (v := (0, 2)) rfl rfl rfl (fun _ => rfl) ?_
    refine pq_l (pc' := 29) rfl rfl rfl rfl rfl ?_
    refine pq_cVV (pc' := 32) rfl rfl rfl rfl rfl (c_fail7 L ys d s21 s21v 2 (⟨by decide, by decide⟩ : iR 2) (cgf s21 2 2) r23 _ hW) (fun s39 hr => ?_)
    obtain ⟨s39v, hW⟩ := hr
    refine pq_goto (pc' := 79) rfl rfl ?_
    refine pq_w [(0, (2, ((2 : Nat) : Int))), (1, (0, z22))] ⟨rfl, rfl, trivial⟩ ?_
    exact J79 N (by omega) z22 z22r s39 s39v hW
def C_readSum7v_128 (s : im_S) (Q : im_S → Prop) : Prop := (Q s)
def C_readSum7v_70 (K44 : Int × im_S → Prop) (l1 : Int) (l2 : Int) (l4 : Int) (s : im_S) (Q : im_S → Prop) : Prop := (∀ v203 : Int, v203 = (if ¬ ((cgf s 2 3) = 45) then 1 else (-1)) → (C_step7v s (fun s205 => (CV_readTerm (w32 (l1 + 1)) l2 s205 (fun s207 => (C_slot7 l1 s207 (fun z210 s209 => (C_slot7 (w32 (l1 + 1)) s209 (fun z212 s211 => (C_addTo7 z210 z212 v203 (cgf s 2 2) s211 (fun s213 => (K44 ((w32 (l4 + 1)), s213)))))))))))))
def C_readSum7v_44 (K44 : Int × im_S → Prop) (l1 : Int) (l2 : Int) (l4 : Int) (s : im_S) (Q : im_S → Prop) : Prop := ((400 ≤ l4 → (C_readSum7v_128 s Q)) ∧ (¬ (400 ≤ l4) → (((cgf s 2 3) = 43 → (C_readSum7v_70 K44 l1 l2 l4 s Q)) ∧ (¬ ((cgf s 2 3) = 43) → ((¬ ((cgf s 2 3) = 45) → (C_readSum7v_128 s Q)) ∧ ((cgf s 2 3) = 45 → (C_readSum7v_70 K44 l1 l2 l4 s Q)))))))
def C_readSum7v_41 (l1 : Int) (l2 : Int) (s : im_S) (Q : im_S → Prop) : Prop := (ploop (fun (K : Int × im_S → Prop) (a : Int × im_S) => C_readSum7v_44 K l1 l2 a.1 a.2 Q) (0, s))
def C_readSum7v_23 (l1 : Int) (l2 : Int) (l3 : Int) (s : im_S) (Q : im_S → Prop) : Prop := (CV_readTerm l1 l2 s (fun s221 => ((0 ≤ l3 → (C_readSum7v_41 l1 l2 s221 Q)) ∧ (¬ (0 ≤ l3) → (C_slot7 l1 s221 (fun z225 s224 => (C_negate7 z225 s224 (fun s226 => (C_readSum7v_41 l1 l2 s226 Q)))))))))
def C_readSum7v (l1 : Int) (l2 : Int) (s : im_S) (Q : im_S → Prop) : Prop := (∀ v429 : Int, v429 = (if ¬ ((cgf s 2 3) = 45) then 1 else (-1)) → ((0 ≤ v429 → (C_readSum7v_23 l1 l2 v429 s Q)) ∧ (¬ (0 ≤ v429) → (C_step7v s (fun s432 => (C_readSum7v_23 l1 l2 v429 s432 Q))))))
set_option maxRecDepth 16384 in
theorem c_readSum7v (L : Nat) (ys : Nat → Int32) (d : Nat) (hS : RV L ys d) (s : im_S) (hv : jI s) (l1 : Int) (l1r : iR l1) (l2 : Int) (l2r : iR l2) (Q : im_S → Prop) (hW : C_readSum7v l1 l2 s Q) : pcV L ys (d + 1) 198 [(2, ((2 : Nat) : Int)), (0, l1), (0, l2)] s (fun s9 => jI s9 ∧ Q s9) := by
  intro res hres
  refine pq_start_s (M := rm_p_X7_readSum) (Q := (fun r : im_Re => r.1 = none ∧ (jI r.2 ∧ Q r.2))) om_X7_readSum (fun N => ?_) res hres
  refine pq_w [(0, (2, ((2 : Nat) : Int))), (1, (0, l1)), (2, (0, l2))] ⟨rfl, rfl, rfl, trivial⟩ ?_
  have J128 : ∀ N128 : Nat, N128 ≤ N → ∀ (s : im_S) (hv : jI s), C_readSum7v_128 s Q → pq L ys d N128 rm_p_X7_readSum (128, [], [], s) (fun r : im_Re => r.1 = none ∧ (jI r.2 ∧ Q r.2)) := by
    intro N128 hN128 s hv hW
    unfold C_readSum7v_128 at hW
    exact pq_vret rfl ⟨rfl, hv, hW⟩
  have J44 : ∀ (l1 : Int) (l1r : iR l1) (l2 : Int) (l2r : iR l2) (I44 : Int × im_S → Prop) (hB44 : ∀ a : Int × im_S, I44 a → C_readSum7v_44 I44 l1 l2 a.1 a.2 Q), ∀ N44 : Nat, N44 ≤ N → ∀ (l4 : Int) (l4r : iR l4) (s : im_S) (hv : jI s), I44 (l4, s) → pq L ys d N44 rm_p_X7_readSum (44, [(0, (2, ((2 : Nat) : Int))), (1, (0, l1)), (2, (0, l2)), (4, (0, l4))], [], s) (fun r : im_Re => r.1 = none ∧ (jI r.2 ∧ Q r.2)) := by
    intro l1 l1r l2 l2r I44 hB44 N44
    induction N44 using Nat.strongRecOn with
    | _ N44 ih44 =>
      intro hN44 l4 l4r s hv hI
      have hW : C_readSum7v_44 I44 l1 l2 l4 s Q := hB44 (l4, s) hI
      have J70 : ∀ N70 : Nat, N70 ≤ N44 → ∀ (l4 : Int) (l4r : iR l4) (s : im_S) (hv : jI s), C_readSum7v_70 I44 l1 l2 l4 s Q → pq L ys d N70 rm_p_X7_readSum (70, [(0, (2, ((2 : Nat) : Int))), (1, (0, l1)), (2, (0, l2)), (4, (0, l4))], [], s) (fun r : im_Re => r.1 = none ∧ (jI r.2 ∧ Q r.2)) := by
        intro N70 hN70 l4 l4r s hv hW
        unfold C_readSum7v_70 at hW
        refine pq_l (pc' := 71) rfl rfl rfl rfl rfl ?_
        refine pq_gi (pc' := 74) rfl rfl rfl rfl rfl (fun r1 => ?_)
        refine pq_s (pc' := 76) rfl rfl rfl rfl rfl ?_
        refine pq_l (pc' := 77) rfl rfl rfl rfl rfl ?_
        refine pq_gi (pc' := 80) rfl rfl rfl rfl rfl (fun r2 => ?_)
        refine pq_k (pc' := 82) (v := (0, 45)) rfl rfl rfl (fun _ => rfl) ?_
        have J204 : ∀ v203 : Int, iR v203 → ((C_step7v s (fun s205 => (CV_readTerm (w32 (l1 + 1)) l2 s205 (fun s207 => (C_slot7 l1 s207 (fun z210 s209 => (C_slot7 (w32 (l1 + 1)) s209 (fun z212 s211 => (C_addTo7 z210 z212 v203 (cgf s 2 2) s211 (fun s213 => (I44 ((w32 (l4 + 1)), s213))))))))))))) → pq L ys d N70 rm_p_X7_readSum (90, [(0, (2, ((2 : Nat) : Int))), (1, (0, l1)), (2, (0, l2)), (4, (0, l4)), (5, (0, (cgf s 2 2)))], [(0, v203)], s) (fun r : im_Re => r.1 = none ∧ (jI r.2 ∧ Q r.2)) := by
          intro v203 v203r hW
          refine pq_s (pc' := 91) rfl rfl rfl rfl rfl ?_
          refine pq_l (pc' := 92) rfl rfl rfl rfl rfl ?_
          refine pq_cVV (pc' := 95) rfl rfl rfl rfl rfl (c_step7v L ys d s hv  _ hW) (fun s205 hr => ?_)
          obtain ⟨s205v, hW⟩ := hr
          refine pq_l (pc' := 96) rfl rfl rfl rfl rfl ?_
          refine pq_l (pc' := 97) rfl rfl rfl rfl rfl ?_
          refine pq_k (pc' := 98) (v := (0, 1)) rfl rfl rfl (fun _ => rfl) ?_
          refine pq_add (pc' := 99) rfl rfl ?_
          refine pq_l (pc' := 100) rfl rfl rfl rfl rfl ?_
          refine pq_cVV (pc' := 103) rfl rfl rfl rfl rfl (hS.2.2.2.2.2.1 s205 s205v (w32 (l1 + 1)) (w32_r _) l2 l2r _ hW) (fun s207 hr => ?_)
          obtain ⟨s207v, hW⟩ := hr
          refine pq_l (pc' := 104) rfl rfl rfl rfl rfl ?_
          refine pq_l (pc' := 105) rfl rfl rfl rfl rfl ?_
          refine pq_l (pc' := 106) rfl rfl rfl rfl rfl ?_
          refine pq_cVR (pc' := 109) rfl rfl rfl rfl rfl (c_slot7 L ys d s207 s207v l1 l1r _ hW) (fun z210 s209 hr => ?_)
          obtain ⟨s209v, hW⟩ := hr
          refine pq_l (pc' := 110) rfl rfl rfl rfl rfl ?_
          refine pq_l (pc' := 111) rfl rfl rfl rfl rfl ?_
          refine pq_k (pc' := 112) (v := (0, 1)) rfl rfl rfl (fun _ => rfl) ?_
          refine pq_add (pc' := 113) rfl rfl ?_
          refine pq_cVR (pc' := 116) rfl rfl rfl rfl rfl (c_slot7 L ys d s209 s209v (w32 (l1 + 1)) (w32_r _) _ hW) (fun z212 s211 hr => ?_)
          obtain ⟨s211v, hW⟩ := hr
          refine pq_l (pc' := 117) rfl rfl rfl rfl rfl ?_
          refine pq_l (pc' := 119) rfl rfl rfl rfl rfl ?_
          refine pq_cVV (pc' := 122) rfl rfl rfl rfl rfl (c_addTo7 L ys d s211 s211v z210 z212 v203 v203r (cgf s 2 2) r1 _ hW) (fun s213 hr => ?_)
          obtain ⟨s213v, hW⟩ := hr
          refine pq_inc (pc' := 125) rfl rfl rfl rfl ?_
          refine pq_gotoT (pc' := 44) rfl rfl (fun m215 m215l => ?_)
          refine pq_w [(0, (2, ((2 : Nat) : Int))), (1, (0, l1)), (2, (0, l2)), (4, (0, (w32 (l4 + 1))))] ⟨rfl, rfl, rfl, rfl, trivial⟩ ?_
          exact ih44 m215 (by omega) (by omega) (w32 (l4 + 1)) (w32_r _) s213 s213v hW
        refine pq_c_ne (pt := 89) (pc' := 85) rfl rfl rfl (fun c3 => ?_) (fun c3 => ?_)
        · refine pq_k (pc' := 90) (v := (0, 1)) rfl rfl rfl (fun _ => rfl) ?_
          refine pq_w [(0, (2, ((2 : Nat) : Int))), (1, (0, l1)), (2, (0, l2)), (4, (0, l4)), (5, (0, (cgf s 2 2)))] ⟨rfl, rfl, rfl, rfl, rfl, trivial⟩ ?_
          exact J204 1 (⟨by decide, by decide⟩ : iR 1) (hW _ (by rw [if_pos c3]))
        · refine pq_k (pc' := 86) (v := (0, (-1))) rfl rfl rfl (fun _ => rfl) ?_
          refine pq_goto (pc' := 90) rfl rfl ?_
          refine pq_w [(0, (2, ((2 : Nat) : Int))), (1, (0, l1)), (2, (0, l2)), (4, (0, l4)), (5, (0, (cgf s 2 2)))] ⟨rfl, rfl, rfl, rfl, rfl, trivial⟩ ?_
          exact J204 (-1) (⟨by decide, by decide⟩ : iR (-1)) (hW _ (by rw [if_neg (by omega)]))
      unfold C_readSum7v_44 at hW
      refine pq_l (pc' := 46) rfl rfl rfl rfl rfl ?_
      refine pq_k (pc' := 49) (v := (0, 400)) rfl rfl rfl (fun _ => rfl) ?_
      refine pq_c_ge (pt := 128) (pc' := 52) rfl rfl rfl (fun c216 => ?_) (fun c216 => ?_)
      · have hW := hW.1 c216
        refine pq_w [] trivial ?_
        exact J128 N44 (by omega) s hv hW
      · have hW := hW.2 c216
        refine pq_l (pc' := 53) rfl rfl rfl rfl rfl ?_
        refine pq_gi (pc' := 56) rfl rfl rfl rfl rfl (fun r217 => ?_)
        refine pq_k (pc' := 58) (v := (0, 43)) rfl rfl rfl (fun _ => rfl) ?_
        refine pq_c_eq (pt := 70) (pc' := 61) rfl rfl rfl (fun c218 => ?_) (fun c218 => ?_)
        · have hW := hW.1 c218
          refine pq_w [(0, (2, ((2 : Nat) : Int))), (1, (0, l1)), (2, (0, l2)), (4, (0, l4))] ⟨rfl, rfl, rfl, rfl, trivial⟩ ?_
          exact J70 N44 (by omega) l4 l4r s hv hW
        · have hW := hW.2 c218
          refine pq_l (pc' := 62) rfl rfl rfl rfl rfl ?_
          refine pq_gi (pc' := 65) rfl rfl rfl rfl rfl (fun r219 => ?_)
          refine pq_k (pc' := 67) (v := (0, 45)) rfl rfl rfl (fun _ => rfl) ?_
          refine pq_c_ne (pt := 128) (pc' := 70) rfl rfl rfl (fun c220 => ?_) (fun c220 => ?_)
          · have hW := hW.1 c220
            refine pq_w [] trivial ?_
            exact J128 N44 (by omega) s hv hW
          · have hW := hW.2 c220
            refine pq_w [(0, (2, ((2 : Nat) : Int))), (1, (0, l1)), (2, (0, l2)), (4, (0, l4))] ⟨rfl, rfl, rfl, rfl, trivial⟩ ?_
            exact J70 N44 (by omega) l4 l4r s hv hW
  have J41 : ∀ N41 : Nat, N41 ≤ N → ∀ (l1 : Int) (l1r : iR l1) (l2 : Int) (l2r : iR l2) (s : im_S) (hv : jI s), C_readSum7v_41 l1 l2 s Q → pq L ys d N41 rm_p_X7_readSum (41, [(0, (2, ((2 : Nat) : Int))), (1, (0, l1)), (2, (0, l2))], [], s) (fun r : im_Re => r.1 = none ∧ (jI r.2 ∧ Q r.2)) := by
    intro N41 hN41 l1 l1r l2 l2r s hv hW
    unfold C_readSum7v_41 at hW
    refine pq_k (pc' := 42) (v := (0, 0)) rfl rfl rfl (fun _ => rfl) ?_
    refine pq_s (pc' := 44) rfl rfl rfl rfl rfl ?_
    refine pq_w [(0, (2, ((2 : Nat) : Int))), (1, (0, l1)), (2, (0, l2)), (4, (0, 0))] ⟨rfl, rfl, rfl, rfl, trivial⟩ ?_
    obtain ⟨I9, hI9, hB9⟩ := hW
    exact J44 l1 l1r l2 l2r I9 hB9 N41 (by omega) 0 (⟨by decide, by decide⟩ : iR 0) s hv hI9
  have J23 : ∀ N23 : Nat, N23 ≤ N → ∀ (l1 : Int) (l1r : iR l1) (l2 : Int) (l2r : iR l2) (l3 : Int) (l3r : iR l3) (s : im_S) (hv : jI s), C_readSum7v_23 l1 l2 l3 s Q → pq L ys d N23 rm_p_X7_readSum (23, [(0, (2, ((2 : Nat) : Int))), (1, (0, l1)), (2, (0, l2)), (3, (0, l3))], [], s) (fun r : im_Re => r.1 = none ∧ (jI r.2 ∧ Q r.2)) := by
    intro N23 hN23 l1 l1r l2 l2r l3 l3r s hv hW
    unfold C_readSum7v_23 at hW
    refine pq_l (pc' := 24) rfl rfl rfl rfl rfl ?_
    refine pq_l (pc' := 25) rfl rfl rfl rfl rfl ?_
    refine pq_l (pc' := 26) rfl rfl rfl rfl rfl ?_
    refine pq_cVV (pc' := 29) rfl rfl rfl rfl rfl (hS.2.2.2.2.2.1 s hv l1 l1r l2 l2r _ hW) (fun s221 hr => ?_)
    obtain ⟨s221v, hW⟩ := hr
    refine pq_l (pc' := 30) rfl rfl rfl rfl rfl ?_
    refine pq_z_ge (pt := 41) (pc' := 33) rfl rfl rfl (fun c223 => ?_) (fun c223 => ?_)
    · have hW := hW.1 c223
      refine pq_w [(0, (2, ((2 : Nat) : Int))), (1, (0, l1)), (2, (0, l2))] ⟨rfl, rfl, rfl, trivial⟩ ?_
      exact J41 N23 (by omega) l1 l1r l2 l2r s221 s221v hW
    · have hW := hW.2 c223
      refine pq_l (pc' := 34) rfl rfl rfl rfl rfl ?_
      refine pq_l (pc' := 35) rfl rfl rfl rfl rfl ?_
      refine pq_cVR (pc' := 38) rfl rfl rfl rfl rfl (c_slot7 L ys d s221 s221v l1 l1r _ hW) (fun z225 s224 hr => ?_)
      obtain ⟨s224v, hW⟩ := hr
      refine pq_cSV (pc' := 41) rfl rfl rfl rfl rfl (c_negate7 L ys d s224 s224v z225 _ hW) (fun s226 hr => ?_)
      obtain ⟨s226v, hW⟩ := hr
      refine pq_w [(0, (2, ((2 : Nat) : Int))), (1, (0, l1)), (2, (0, l2))] ⟨rfl, rfl, rfl, trivial⟩ ?_
      exact J41 N23 (by omega) l1 l1r l2 l2r s226 s226v hW
  unfold C_readSum7v at hW
  refine pq_l (pc' := 1) rfl rfl rfl rfl rfl ?_
  refine pq_gi (pc' := 4) rfl rfl rfl rfl rfl (fun r228 => ?_)
  refine pq_k (pc' := 6) (v := (0, 45)) rfl rfl rfl (fun _ => rfl) ?_
  have J430 : ∀ v429 : Int, iR v429 → (((0 ≤ v429 → (C_readSum7v_23 l1 l2 v429 s Q)) ∧ (¬ (0 ≤ v429) → (C_step7v s (fun s432 => (C_readSum7v_23 l1 l2 v429 s432 Q)))))) → pq L ys d N rm_p_X7_readSum (14, [(0, (2, ((2 : Nat) : Int))), (1, (0, l1)), (2, (0, l2))], [(0, v429)], s) (fun r : im_Re => r.1 = none ∧ (jI r.2 ∧ Q r.2)) := by
    intro v429 v429r hW
    refine pq_s (pc' := 15) rfl rfl rfl rfl rfl ?_
    refine pq_l (pc' := 16) rfl rfl rfl rfl rfl ?_
    refine pq_z_ge (pt := 23) (pc' := 19) rfl rfl rfl (fun c431 => ?_) (fun c431 => ?_)
    · have hW := hW.1 c431
      refine pq_w [(0, (2, ((2 : Nat) : Int))), (1, (0, l1)), (2, (0, l2)), (3, (0, v429))] ⟨rfl, rfl, rfl, rfl, trivial⟩ ?_
      exact J23 N (by omega) l1 l1r l2 l2r v429 v429r s hv hW
    · have hW := hW.2 c431
      refine pq_l (pc' := 20) rfl rfl rfl rfl rfl ?_
      refine pq_cVV (pc' := 23) rfl rfl rfl rfl rfl (c_step7v L ys d s hv  _ hW) (fun s432 hr => ?_)
      obtain ⟨s432v, hW⟩ := hr
      refine pq_w [(0, (2, ((2 : Nat) : Int))), (1, (0, l1)), (2, (0, l2)), (3, (0, v429))] ⟨rfl, rfl, rfl, rfl, trivial⟩ ?_
      exact J23 N (by omega) l1 l1r l2 l2r v429 v429r s432 s432v hW
  refine pq_c_ne (pt := 13) (pc' := 9) rfl rfl rfl (fun c229 => ?_) (fun c229 => ?_)
  · refine pq_k (pc' := 14) (v := (0, 1)) rfl rfl rfl (fun _ => rfl) ?_
    refine pq_w [(0, (2, ((2 : Nat) : Int))), (1, (0, l1)), (2, (0, l2))] ⟨rfl, rfl, rfl, trivial⟩ ?_
    exact J430 1 (⟨by decide, by decide⟩ : iR 1) (hW _ (by rw [if_pos c229]))
  · refine pq_k (pc' := 10) (v := (0, (-1))) rfl rfl rfl (fun _ => rfl) ?_
    refine pq_goto (pc' := 14) rfl rfl ?_
    refine pq_w [(0, (2, ((2 : Nat) : Int))), (1, (0, l1)), (2, (0, l2))] ⟨rfl, rfl, rfl, trivial⟩ ?_
    exact J430 (-1) (⟨by decide, by decide⟩ : iR (-1)) (hW _ (by rw [if_neg (by omega)]))
def C_readTerm7v_66 (s : im_S) (Q : im_S → Prop) : Prop := (Q s)
def C_readTerm7v_8 (K8 : Int × im_S → Prop) (l1 : Int) (l2 : Int) (l3 : Int) (s : im_S) (Q : im_S → Prop) : Prop := ((400 ≤ l3 → (C_readTerm7v_66 s Q)) ∧ (¬ (400 ≤ l3) → ((¬ ((cgf s 2 3) = 42) → (C_readTerm7v_66 s Q)) ∧ ((cgf s 2 3) = 42 → (C_step7v s (fun s5 => (CV_readPower (w32 (l1 + 1)) l2 s5 (fun s7 => (C_slot7 l1 s7 (fun z10 s9 => (C_slot7 (w32 (l1 + 1)) s9 (fun z12 s11 => (C_multiply7 z10 z12 (cgf s 2 2) s11 (fun s13 => (K8 ((w32 (l3 + 1)), s13))))))))))))))))
def C_readTerm7v (l1 : Int) (l2 : Int) (s : im_S) (Q : im_S → Prop) : Prop := (CV_readPower l1 l2 s (fun s16 => (ploop (fun (K : Int × im_S → Prop) (a : Int × im_S) => C_readTerm7v_8 K l1 l2 a.1 a.2 Q) (0, s16))))
set_option maxRecDepth 16384 in
theorem c_readTerm7v (L : Nat) (ys : Nat → Int32) (d : Nat) (hS : RV L ys d) (s : im_S) (hv : jI s) (l1 : Int) (l1r : iR l1) (l2 : Int) (l2r : iR l2) (Q : im_S → Prop) (hW : C_readTerm7v l1 l2 s Q) : pcV L ys (d + 1) 199 [(2, ((2 : Nat) : Int)), (0, l1), (0, l2)] s (fun s9 => jI s9 ∧ Q s9) := by
  intro res hres
  refine pq_start_s (M := rm_p_X7_readTerm) (Q := (fun r : im_Re => r.1 = none ∧ (jI r.2 ∧ Q r.2))) om_X7_readTerm (fun N => ?_) res hres
  refine pq_w [(0, (2, ((2 : Nat) : Int))), (1, (0, l1)), (2, (0, l2))] ⟨rfl, rfl, rfl, trivial⟩ ?_
  have J66 : ∀ N66 : Nat, N66 ≤ N → ∀ (s : im_S) (hv : jI s), C_readTerm7v_66 s Q → pq L ys d N66 rm_p_X7_readTerm (66, [], [], s) (fun r : im_Re => r.1 = none ∧ (jI r.2 ∧ Q r.2)) := by
    intro N66 hN66 s hv hW
    unfold C_readTerm7v_66 at hW
    exact pq_vret rfl ⟨rfl, hv, hW⟩
  have J8 : ∀ (l1 : Int) (l1r : iR l1) (l2 : Int) (l2r : iR l2) (I8 : Int × im_S → Prop) (hB8 : ∀ a : Int × im_S, I8 a → C_readTerm7v_8 I8 l1 l2 a.1 a.2 Q), ∀ N8 : Nat, N8 ≤ N → ∀ (l3 : Int) (l3r : iR l3) (s : im_S) (hv : jI s), I8 (l3, s) → pq L ys d N8 rm_p_X7_readTerm (8, [(0, (2, ((2 : Nat) : Int))), (1, (0, l1)), (2, (0, l2)), (3, (0, l3))], [], s) (fun r : im_Re => r.1 = none ∧ (jI r.2 ∧ Q r.2)) := by
    intro l1 l1r l2 l2r I8 hB8 N8
    induction N8 using Nat.strongRecOn with
    | _ N8 ih8 =>
      intro hN8 l3 l3r s hv hI
      have hW : C_readTerm7v_8 I8 l1 l2 l3 s Q := hB8 (l3, s) hI
      unfold C_readTerm7v_8 at hW
      refine pq_l (pc' := 9) rfl rfl rfl rfl rfl ?_
      refine pq_k (pc' := 12) (v := (0, 400)) rfl rfl rfl (fun _ => rfl) ?_
      refine pq_c_ge (pt := 66) (pc' := 15) rfl rfl rfl (fun c1 => ?_) (fun c1 => ?_)
      · have hW := hW.1 c1
        refine pq_w [] trivial ?_
        exact J66 N8 (by omega) s hv hW
      · have hW := hW.2 c1
        refine pq_l (pc' := 16) rfl rfl rfl rfl rfl ?_
        refine pq_gi (pc' := 19) rfl rfl rfl rfl rfl (fun r2 => ?_)
        refine pq_k (pc' := 21) (v := (0, 42)) rfl rfl rfl (fun _ => rfl) ?_
        refine pq_c_ne (pt := 66) (pc' := 24) rfl rfl rfl (fun c3 => ?_) (fun c3 => ?_)
        · have hW := hW.1 c3
          refine pq_w [] trivial ?_
          exact J66 N8 (by omega) s hv hW
        · have hW := hW.2 c3
          refine pq_l (pc' := 25) rfl rfl rfl rfl rfl ?_
          refine pq_gi (pc' := 28) rfl rfl rfl rfl rfl (fun r4 => ?_)
          refine pq_s (pc' := 30) rfl rfl rfl rfl rfl ?_
          refine pq_l (pc' := 31) rfl rfl rfl rfl rfl ?_
          refine pq_cVV (pc' := 34) rfl rfl rfl rfl rfl (c_step7v L ys d s hv  _ hW) (fun s5 hr => ?_)
          obtain ⟨s5v, hW⟩ := hr
          refine pq_l (pc' := 35) rfl rfl rfl rfl rfl ?_
          refine pq_l (pc' := 36) rfl rfl rfl rfl rfl ?_
          refine pq_k (pc' := 37) (v := (0, 1)) rfl rfl rfl (fun _ => rfl) ?_
          refine pq_add (pc' := 38) rfl rfl ?_
          refine pq_l (pc' := 39) rfl rfl rfl rfl rfl ?_
          refine pq_cVV (pc' := 42) rfl rfl rfl rfl rfl (hS.2.2.2.2.2.2.1 s5 s5v (w32 (l1 + 1)) (w32_r _) l2 l2r _ hW) (fun s7 hr => ?_)
          obtain ⟨s7v, hW⟩ := hr
          refine pq_l (pc' := 43) rfl rfl rfl rfl rfl ?_
          refine pq_l (pc' := 44) rfl rfl rfl rfl rfl ?_
          refine pq_l (pc' := 45) rfl rfl rfl rfl rfl ?_
          refine pq_cVR (pc' := 48) rfl rfl rfl rfl rfl (c_slot7 L ys d s7 s7v l1 l1r _ hW) (fun z10 s9 hr => ?_)
          obtain ⟨s9v, hW⟩ := hr
          refine pq_l (pc' := 49) rfl rfl rfl rfl rfl ?_
          refine pq_l (pc' := 50) rfl rfl rfl rfl rfl ?_
          refine pq_k (pc' := 51) (v := (0, 1)) rfl rfl rfl (fun _ => rfl) ?_
          refine pq_add (pc' := 52) rfl rfl ?_
          refine pq_cVR (pc' := 55) rfl rfl rfl rfl rfl (c_slot7 L ys d s9 s9v (w32 (l1 + 1)) (w32_r _) _ hW) (fun z12 s11 hr => ?_)
          obtain ⟨s11v, hW⟩ := hr
          refine pq_l (pc' := 57) rfl rfl rfl rfl rfl ?_
          refine pq_cVV (pc' := 60) rfl rfl rfl rfl rfl (c_multiply7 L ys d s11 s11v z10 z12 (cgf s 2 2) r4 _ hW) (fun s13 hr => ?_)
          obtain ⟨s13v, hW⟩ := hr
          refine pq_inc (pc' := 63) rfl rfl rfl rfl ?_
          refine pq_gotoT (pc' := 8) rfl rfl (fun m15 m15l => ?_)
          refine pq_w [(0, (2, ((2 : Nat) : Int))), (1, (0, l1)), (2, (0, l2)), (3, (0, (w32 (l3 + 1))))] ⟨rfl, rfl, rfl, rfl, trivial⟩ ?_
          exact ih8 m15 (by omega) (by omega) (w32 (l3 + 1)) (w32_r _) s13 s13v hW
  unfold C_readTerm7v at hW
  refine pq_l (pc' := 1) rfl rfl rfl rfl rfl ?_
  refine pq_l (pc' := 2) rfl rfl rfl rfl rfl ?_
  refine pq_l (pc' := 3) rfl rfl rfl rfl rfl ?_
  refine pq_cVV (pc' := 6) rfl rfl rfl rfl rfl (hS.2.2.2.2.2.2.1 s hv l1 l1r l2 l2r _ hW) (fun s16 hr => ?_)
  obtain ⟨s16v, hW⟩ := hr
  refine pq_k (pc' := 7) (v := (0, 0)) rfl rfl rfl (fun _ => rfl) ?_
  refine pq_s (pc' := 8) rfl rfl rfl rfl rfl ?_
  refine pq_w [(0, (2, ((2 : Nat) : Int))), (1, (0, l1)), (2, (0, l2)), (3, (0, 0))] ⟨rfl, rfl, rfl, rfl, trivial⟩ ?_
  obtain ⟨I9, hI9, hB9⟩ := hW
  exact J8 l1 l1r l2 l2r I9 hB9 N (by omega) 0 (⟨by decide, by decide⟩ : iR 0) s16 s16v hI9
def C_readPower7v_42 (s : im_S) (Q : im_S → Prop) : Prop := (Q s)
def C_readPower7v (l1 : Int) (l2 : Int) (s : im_S) (Q : im_S → Prop) : Prop := (CV_readBase l1 l2 s (fun s1 => ((¬ ((cgf s1 2 3) = 94) → (C_readPower7v_42 s1 Q)) ∧ ((cgf s1 2 3) = 94 → (C_step7v s1 (fun s6 => (C_readNumber7v s6 (fun z9 s8 => (C_slot7 l1 s8 (fun z11 s10 => (C_raise7 z11 z9 (cgf s1 2 2) s10 (fun s12 => (C_readPower7v_42 s12 Q)))))))))))))
set_option maxRecDepth 16384 in
theorem c_readPower7v (L : Nat) (ys : Nat → Int32) (d : Nat) (hS : RV L ys d) (s : im_S) (hv : jI s) (l1 : Int) (l1r : iR l1) (l2 : Int) (l2r : iR l2) (Q : im_S → Prop) (hW : C_readPower7v l1 l2 s Q) : pcV L ys (d + 1) 197 [(2, ((2 : Nat) : Int)), (0, l1), (0, l2)] s (fun s9 => jI s9 ∧ Q s9) := by
  intro res hres
  refine pq_start_s (M := rm_p_X7_readPower) (Q := (fun r : im_Re => r.1 = none ∧ (jI r.2 ∧ Q r.2))) om_X7_readPower (fun N => ?_) res hres
  refine pq_w [(0, (2, ((2 : Nat) : Int))), (1, (0, l1)), (2, (0, l2))] ⟨rfl, rfl, rfl, trivial⟩ ?_
  have J42 : ∀ N42 : Nat, N42 ≤ N → ∀ (s : im_S) (hv : jI s), C_readPower7v_42 s Q → pq L ys d N42 rm_p_X7_readPower (42, [], [], s) (fun r : im_Re => r.1 = none ∧ (jI r.2 ∧ Q r.2)) := by
    intro N42 hN42 s hv hW
    unfold C_readPower7v_42 at hW
    exact pq_vret rfl ⟨rfl, hv, hW⟩
  unfold C_readPower7v at hW
  refine pq_l (pc' := 1) rfl rfl rfl rfl rfl ?_
  refine pq_l (pc' := 2) rfl rfl rfl rfl rfl ?_
  refine pq_l (pc' := 3) rfl rfl rfl rfl rfl ?_
  refine pq_cVV (pc' := 6) rfl rfl rfl rfl rfl (hS.2.2.2.2.2.2.2 s hv l1 l1r l2 l2r _ hW) (fun s1 hr => ?_)
  obtain ⟨s1v, hW⟩ := hr
  refine pq_l (pc' := 7) rfl rfl rfl rfl rfl ?_
  refine pq_gi (pc' := 10) rfl rfl rfl rfl rfl (fun r3 => ?_)
  refine pq_k (pc' := 12) (v := (0, 94)) rfl rfl rfl (fun _ => rfl) ?_
  refine pq_c_ne (pt := 42) (pc' := 15) rfl rfl rfl (fun c4 => ?_) (fun c4 => ?_)
  · have hW := hW.1 c4
    refine pq_w [] trivial ?_
    exact J42 N (by omega) s1 s1v hW
  · have hW := hW.2 c4
    refine pq_l (pc' := 16) rfl rfl rfl rfl rfl ?_
    refine pq_gi (pc' := 19) rfl rfl rfl rfl rfl (fun r5 => ?_)
    refine pq_s (pc' := 20) rfl rfl rfl rfl rfl ?_
    refine pq_l (pc' := 21) rfl rfl rfl rfl rfl ?_
    refine pq_cVV (pc' := 24) rfl rfl rfl rfl rfl (c_step7v L ys d s1 s1v  _ hW) (fun s6 hr => ?_)
    obtain ⟨s6v, hW⟩ := hr
    refine pq_l (pc' := 25) rfl rfl rfl rfl rfl ?_
    refine pq_cVI (pc' := 28) rfl rfl rfl rfl rfl (c_readNumber7v L ys d s6 s6v  _ hW) (fun z9 s8 hr => ?_)
    obtain ⟨s8v, z9r, hW⟩ := hr
    refine pq_s (pc' := 30) rfl rfl rfl rfl rfl ?_
    refine pq_l (pc' := 31) rfl rfl rfl rfl rfl ?_
    refine pq_l (pc' := 32) rfl rfl rfl rfl rfl ?_
    refine pq_l (pc' := 33) rfl rfl rfl rfl rfl ?_
    refine pq_cVR (pc' := 36) rfl rfl rfl rfl rfl (c_slot7 L ys d s8 s8v l1 l1r _ hW) (fun z11 s10 hr => ?_)
    obtain ⟨s10v, hW⟩ := hr
    refine pq_l (pc' := 38) rfl rfl rfl rfl rfl ?_
    refine pq_l (pc' := 39) rfl rfl rfl rfl rfl ?_
    refine pq_cVV (pc' := 42) rfl rfl rfl rfl rfl (c_raise7 L ys d s10 s10v z11 z9 z9r (cgf s1 2 2) r5 _ hW) (fun s12 hr => ?_)
    obtain ⟨s12v, hW⟩ := hr
    refine pq_w [] trivial ?_
    exact J42 N (by omega) s12 s12v hW
def C_readBase7v_87 (s : im_S) (Q : im_S → Prop) : Prop := (Q s)
def C_readBase7v (l1 : Int) (l2 : Int) (s : im_S) (Q : im_S → Prop) : Prop := ((¬ ((cgf s 2 3) = 120) → (((cgf s 2 3) = 40 → ((l2 < 10 → (C_step7v s (fun s6 => (CV_readSum l1 (w32 (l2 + 1)) s6 (fun s8 => (C_expect7v 41 s8 (fun s10 => (C_readBase7v_87 s10 Q)))))))) ∧ (¬ (l2 < 10) → (C_fail7 3 (cgf s 2 2) s (fun s13 => (C_readBase7v_87 s13 Q)))))) ∧ (¬ ((cgf s 2 3) = 40) → (C_slot7 l1 s (fun z16 s15 => (C_readNumber7v s15 (fun z18 s17 => (C_setConstant6 z16 z18 s17 (fun s19 => (C_readBase7v_87 s19 Q)))))))))) ∧ ((cgf s 2 3) = 120 → (C_slot7 l1 s (fun z22 s21 => (C_setLinear6 z22 1 0 s21 (fun s23 => (C_step7v s23 (fun s25 => (C_readBase7v_87 s25 Q)))))))))
set_option maxRecDepth 16384 in
theorem c_readBase7v (L : Nat) (ys : Nat → Int32) (d : Nat) (hS : RV L ys d) (s : im_S) (hv : jI s) (l1 : Int) (l1r : iR l1) (l2 : Int) (l2r : iR l2) (Q : im_S → Prop) (hW : C_readBase7v l1 l2 s Q) : pcV L ys (d + 1) 194 [(2, ((2 : Nat) : Int)), (0, l1), (0, l2)] s (fun s9 => jI s9 ∧ Q s9) := by
  intro res hres
  refine pq_start_s (M := rm_p_X7_readBase) (Q := (fun r : im_Re => r.1 = none ∧ (jI r.2 ∧ Q r.2))) om_X7_readBase (fun N => ?_) res hres
  refine pq_w [(0, (2, ((2 : Nat) : Int))), (1, (0, l1)), (2, (0, l2))] ⟨rfl, rfl, rfl, trivial⟩ ?_
  have J87 : ∀ N87 : Nat, N87 ≤ N → ∀ (s : im_S) (hv : jI s), C_readBase7v_87 s Q → pq L ys d N87 rm_p_X7_readBase (87, [], [], s) (fun r : im_Re => r.1 = none ∧ (jI r.2 ∧ Q r.2)) := by
    intro N87 hN87 s hv hW
    unfold C_readBase7v_87 at hW
    exact pq_vret rfl ⟨rfl, hv, hW⟩
  unfold C_readBase7v at hW
  refine pq_l (pc' := 1) rfl rfl rfl rfl rfl ?_
  refine pq_gi (pc' := 4) rfl rfl rfl rfl rfl (fun r1 => ?_)
  refine pq_k (pc' := 6) (v := (0, 120)) rfl rfl rfl (fun _ => rfl) ?_
  refine pq_c_ne (pt := 26) (pc' := 9) rfl rfl rfl (fun c2 => ?_) (fun c2 => ?_)
  · have hW := hW.1 c2
    refine pq_l (pc' := 27) rfl rfl rfl rfl rfl ?_
    refine pq_gi (pc' := 30) rfl rfl rfl rfl rfl (fun r3 => ?_)
    refine pq_k (pc' := 32) (v := (0, 40)) rfl rfl rfl (fun _ => rfl) ?_
    refine pq_c_eq (pt := 51) (pc' := 35) rfl rfl rfl (fun c4 => ?_) (fun c4 => ?_)
    · have hW := hW.1 c4
      refine pq_l (pc' := 52) rfl rfl rfl rfl rfl ?_
      refine pq_k (pc' := 54) (v := (0, 10)) rfl rfl rfl (fun _ => rfl) ?_
      refine pq_c_lt (pt := 69) (pc' := 57) rfl rfl rfl (fun c5 => ?_) (fun c5 => ?_)
      · have hW := hW.1 c5
        refine pq_l (pc' := 70) rfl rfl rfl rfl rfl ?_
        refine pq_cVV (pc' := 73) rfl rfl rfl rfl rfl (c_step7v L ys d s hv  _ hW) (fun s6 hr => ?_)
        obtain ⟨s6v, hW⟩ := hr
        refine pq_l (pc' := 74) rfl rfl rfl rfl rfl ?_
        refine pq_l (pc' := 75) rfl rfl rfl rfl rfl ?_
        refine pq_l (pc' := 76) rfl rfl rfl rfl rfl ?_
        refine pq_k (pc' := 77) (v := (0, 1)) rfl rfl rfl (fun _ => rfl) ?_
        refine pq_add (pc' := 78) rfl rfl ?_
        refine pq_cVV (pc' := 81) rfl rfl rfl rfl rfl (hS.2.2.2.2.1 s6 s6v l1 l1r (w32 (l2 + 1)) (w32_r _) _ hW) (fun s8 hr => ?_)
        obtain ⟨s8v, hW⟩ := hr
        refine pq_l (pc' := 82) rfl rfl rfl rfl rfl ?_
        refine pq_k (pc' := 84) (v := (0, 41)) rfl rfl rfl (fun _ => rfl) ?_
        refine pq_cVV (pc' := 87) rfl rfl rfl rfl rfl (c_expect7v L ys d s8 s8v 41 (⟨by decide, by decide⟩ : iR 41) _ hW) (fun s10 hr => ?_)
        obtain ⟨s10v, hW⟩ := hr
        refine pq_w [] trivial ?_
        exact J87 N (by omega) s10 s10v hW
      · have hW := hW.2 c5
        refine pq_l (pc' := 58) rfl rfl rfl rfl rfl ?_
        refine pq_k (pc' := 59) (v := (0, 3)) rfl rfl rfl (fun _ => rfl) ?_
        refine pq_l (pc' := 60) rfl rfl rfl rfl rfl ?_
        refine pq_gi (pc' := 63) rfl rfl rfl rfl rfl (fun r12 => ?_)
        refine pq_cVV (pc' := 66) rfl rfl rfl rfl rfl (c_fail7 L ys d s hv 3 (⟨by decide, by decide⟩ : iR 3) (cgf s 2 2) r12 _ hW) (fun s13 hr => ?_)
        obtain ⟨s13v, hW⟩ := hr
        refine pq_goto (pc' := 87) rfl rfl ?_
        refine pq_w [] trivial ?_
        exact J87 N (by omega) s13 s13v hW
    · have hW := hW.2 c4
      refine pq_l (pc' := 36) rfl rfl rfl rfl rfl ?_
      refine pq_l (pc' := 37) rfl rfl rfl rfl rfl ?_
      refine pq_cVR (pc' := 40) rfl rfl rfl rfl rfl (c_slot7 L ys d s hv l1 l1r _ hW) (fun z16 s15 hr => ?_)
      obtain ⟨s15v, hW⟩ := hr
      refine pq_l (pc' := 41) rfl rfl rfl rfl rfl ?_
      refine pq_cVI (pc' := 44) rfl rfl rfl rfl rfl (c_readNumber7v L ys d s15 s15v  _ hW) (fun z18 s17 hr => ?_)
      obtain ⟨s17v, z18r, hW⟩ := hr
      refine pq_i2l (pc' := 45) rfl rfl z18r ?_
      refine pq_cVV (pc' := 48) rfl rfl rfl rfl rfl (c_setConstant6 L ys d s17 s17v z16 z18 (iR_l z18r) _ hW) (fun s19 hr => ?_)
      obtain ⟨s19v, hW⟩ := hr
      refine pq_goto (pc' := 87) rfl rfl ?_
      refine pq_w [] trivial ?_
      exact J87 N (by omega) s19 s19v hW
  · have hW := hW.2 c2
    refine pq_l (pc' := 10) rfl rfl rfl rfl rfl ?_
    refine pq_l (pc' := 11) rfl rfl rfl rfl rfl ?_
    refine pq_cVR (pc' := 14) rfl rfl rfl rfl rfl (c_slot7 L ys d s hv l1 l1r _ hW) (fun z22 s21 hr => ?_)
    obtain ⟨s21v, hW⟩ := hr
    refine pq_k (pc' := 15) (v := (1, 1)) rfl rfl rfl (fun _ => rfl) ?_
    refine pq_k (pc' := 16) (v := (1, 0)) rfl rfl rfl (fun _ => rfl) ?_
    refine pq_cVV (pc' := 19) rfl rfl rfl rfl rfl (c_setLinear6 L ys d s21 s21v z22 1 (⟨by decide, by decide⟩ : lR 1) 0 (⟨by decide, by decide⟩ : lR 0) _ hW) (fun s23 hr => ?_)
    obtain ⟨s23v, hW⟩ := hr
    refine pq_l (pc' := 20) rfl rfl rfl rfl rfl ?_
    refine pq_cVV (pc' := 23) rfl rfl rfl rfl rfl (c_step7v L ys d s23 s23v  _ hW) (fun s25 hr => ?_)
    obtain ⟨s25v, hW⟩ := hr
    refine pq_goto (pc' := 87) rfl rfl ?_
    refine pq_w [] trivial ?_
    exact J87 N (by omega) s25 s25v hW
