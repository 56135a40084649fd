/-! POLYNOMIALS OF THE CLASS, lifted by program -/
def C_setConstant6_2 (K2 : Int × im_S → Prop) (l0 : Nat) (l1 : Int) (l3 : Int) (s : im_S) (Q : im_S → Prop) : Prop := ((8 < l3 → ((0 ≤ (0 : Int) ∧ (0 : Int) < gln (l0 + 1)) → ∀ s2, s2 = cpa s (l0 + 1) 0 l1 → (∀ v204 : Int, v204 = (if l1 = 0 then (-1) else 0) → (∀ s206, s206 = cpf s2 l0 0 v204 → (Q s206))))) ∧ (¬ (8 < l3) → ((0 ≤ l3 ∧ l3 < gln (l0 + 1)) → ∀ s207, s207 = cpa s (l0 + 1) l3 0 → (K2 ((w32 (l3 + 1)), s207)))))
def C_setConstant6 (l0 : Nat) (l1 : Int) (s : im_S) (Q : im_S → Prop) : Prop := (ploop (fun (K : Int × im_S → Prop) (a : Int × im_S) => C_setConstant6_2 K l0 l1 a.1 a.2 Q) (1, s))
set_option maxRecDepth 16384 in
theorem c_setConstant6 (L : Nat) (ys : Nat → Int32) (d : Nat) (s : im_S) (hv : jI s) (l0 : Nat) (l1 : Int) (l1r : lR l1) (Q : im_S → Prop) (hW : C_setConstant6 l0 l1 s Q) : pcV L ys d 176 [(2, ((l0 : Nat) : Int)), (1, l1)] s (fun s9 => jI s9 ∧ Q s9) := by
  intro res hres
  refine pq_start (M := rm_p_X6_setConstant) (Q := (fun r : im_Re => r.1 = none ∧ (jI r.2 ∧ Q r.2))) om_X6_setConstant (fun d N => ?_) res hres
  refine pq_w [(0, (2, ((l0 : Nat) : Int))), (1, (1, l1))] ⟨rfl, rfl, trivial⟩ ?_
  have J2 : ∀ (l0 : Nat) (l1 : Int) (l1r : lR l1) (I2 : Int × im_S → Prop) (hB2 : ∀ a : Int × im_S, I2 a → C_setConstant6_2 I2 l0 l1 a.1 a.2 Q), ∀ N2 : Nat, N2 ≤ N → ∀ (l3 : Int) (l3r : iR l3) (s : im_S) (hv : jI s), I2 (l3, s) → pq L ys d N2 rm_p_X6_setConstant (2, [(0, (2, ((l0 : Nat) : Int))), (1, (1, l1)), (3, (0, l3))], [], s) (fun r : im_Re => r.1 = none ∧ (jI r.2 ∧ Q r.2)) := by
    intro l0 l1 l1r I2 hB2 N2
    induction N2 using Nat.strongRecOn with
    | _ N2 ih2 =>
      intro hN2 l3 l3r s hv hI
      have hW : C_setConstant6_2 I2 l0 l1 l3 s Q := hB2 (l3, s) hI
      unfold C_setConstant6_2 at hW
      refine pq_l (pc' := 3) rfl rfl rfl rfl rfl ?_
      refine pq_k (pc' := 5) (v := (0, 8)) rfl rfl rfl (fun _ => rfl) ?_
      refine pq_c_gt (pt := 21) (pc' := 8) rfl rfl rfl (fun c1 => ?_) (fun c1 => ?_)
      · have hW := hW.1 c1
        refine pq_l (pc' := 22) rfl rfl rfl rfl rfl ?_
        refine pq_gr (pc' := 25) (c := (l0 + 1)) (v := 0) rfl rfl rfl rfl rfl rfl hv ?_
        refine pq_k (pc' := 26) (v := (0, 0)) rfl rfl rfl (fun _ => rfl) ?_
        refine pq_l (pc' := 27) rfl rfl rfl rfl rfl ?_
        refine pq_ls (pc' := 28) rfl rfl hv (fun s2a s2b s2 s2e s2v => ?_)
        have hW := hW ⟨s2a, s2b⟩ s2 s2e
        refine pq_l (pc' := 29) rfl rfl rfl rfl rfl ?_
        refine pq_l (pc' := 30) rfl rfl rfl rfl rfl ?_
        refine pq_k (pc' := 31) (v := (1, 0)) rfl rfl rfl (fun _ => rfl) ?_
        refine pq_lcmp (pc' := 32) rfl rfl l1r (⟨by decide, by decide⟩ : lR 0) (fun z3 z3c => ?_)
        have J205 : ∀ v204 : Int, iR v204 → ((∀ s206, s206 = cpf s2 l0 0 v204 → (Q s206))) → pq L ys d N2 rm_p_X6_setConstant (40, [], [(0, v204), (2, ((l0 : Nat) : Int))], s2) (fun r : im_Re => r.1 = none ∧ (jI r.2 ∧ Q r.2)) := by
          intro v204 v204r hW
          refine pq_pX (pc' := 43) rfl rfl rfl rfl (fun e => absurd e (by decide)) (fun e => absurd e (by decide)) s2v (fun s206 s206e s206v => ?_)
          have hW := hW s206 s206e
          exact pq_vret rfl ⟨rfl, s206v, hW⟩
        refine pq_z_eq (pt := 39) (pc' := 35) rfl rfl rfl (fun c4 => ?_) (fun c4 => ?_)
        · have c4 : l1 = 0 := by omega
          refine pq_k (pc' := 40) (v := (0, (-1))) rfl rfl rfl (fun _ => rfl) ?_
          refine pq_w [] trivial ?_
          exact J205 (-1) (⟨by decide, by decide⟩ : iR (-1)) (hW _ (by rw [if_pos c4]))
        · have c4 : ¬ (l1 = 0) := by omega
          refine pq_k (pc' := 36) (v := (0, 0)) rfl rfl rfl (fun _ => rfl) ?_
          refine pq_goto (pc' := 40) rfl rfl ?_
          refine pq_w [] trivial ?_
          exact J205 0 (⟨by decide, by decide⟩ : iR 0) (hW _ (by rw [if_neg (fun z => c4 z)]))
      · have hW := hW.2 c1
        refine pq_l (pc' := 9) rfl rfl rfl rfl rfl ?_
        refine pq_gr (pc' := 12) (c := (l0 + 1)) (v := 0) rfl rfl rfl rfl rfl rfl hv ?_
        refine pq_l (pc' := 13) rfl rfl rfl rfl rfl ?_
        refine pq_k (pc' := 14) (v := (1, 0)) rfl rfl rfl (fun _ => rfl) ?_
        refine pq_ls (pc' := 15) rfl rfl hv (fun s207a s207b s207 s207e s207v => ?_)
        have hW := hW ⟨s207a, s207b⟩ s207 s207e
        refine pq_inc (pc' := 18) rfl rfl rfl rfl ?_
        refine pq_gotoT (pc' := 2) rfl rfl (fun m208 m208l => ?_)
        refine pq_w [(0, (2, ((l0 : Nat) : Int))), (1, (1, l1)), (3, (0, (w32 (l3 + 1))))] ⟨rfl, rfl, rfl, trivial⟩ ?_
        exact ih2 m208 (by omega) (by omega) (w32 (l3 + 1)) (w32_r _) s207 s207v hW
  unfold C_setConstant6 at hW
  refine pq_k (pc' := 1) (v := (0, 1)) rfl rfl rfl (fun _ => rfl) ?_
  refine pq_s (pc' := 2) rfl rfl rfl rfl rfl ?_
  refine pq_w [(0, (2, ((l0 : Nat) : Int))), (1, (1, l1)), (3, (0, 1))] ⟨rfl, rfl, rfl, trivial⟩ ?_
  obtain ⟨I9, hI9, hB9⟩ := hW
  exact J2 l0 l1 l1r I9 hB9 N (by omega) 1 (⟨by decide, by decide⟩ : iR 1) s hv hI9
def C_setLinear6 (l0 : Nat) (l1 : Int) (l3 : Int) (s : im_S) (Q : im_S → Prop) : Prop := (C_setConstant6 l0 l3 s (fun s1 => ((0 ≤ (1 : Int) ∧ (1 : Int) < gln (l0 + 1)) → ∀ s3, s3 = cpa s1 (l0 + 1) 1 l1 → (∀ v205 : Int, v205 = (if l1 = 0 then (cgf s3 l0 0) else 1) → (∀ s207, s207 = cpf s3 l0 0 v205 → (Q s207))))))
set_option maxRecDepth 16384 in
theorem c_setLinear6 (L : Nat) (ys : Nat → Int32) (d : Nat) (s : im_S) (hv : jI s) (l0 : Nat) (l1 : Int) (l1r : lR l1) (l3 : Int) (l3r : lR l3) (Q : im_S → Prop) (hW : C_setLinear6 l0 l1 l3 s Q) : pcV L ys d 177 [(2, ((l0 : Nat) : Int)), (1, l1), (1, l3)] s (fun s9 => jI s9 ∧ Q s9) := by
  intro res hres
  refine pq_start (M := rm_p_X6_setLinear) (Q := (fun r : im_Re => r.1 = none ∧ (jI r.2 ∧ Q r.2))) om_X6_setLinear (fun d N => ?_) res hres
  refine pq_w [(0, (2, ((l0 : Nat) : Int))), (1, (1, l1)), (3, (1, l3))] ⟨rfl, rfl, rfl, trivial⟩ ?_
  unfold C_setLinear6 at hW
  refine pq_l (pc' := 1) rfl rfl rfl rfl rfl ?_
  refine pq_l (pc' := 2) rfl rfl rfl rfl rfl ?_
  refine pq_cVV (pc' := 5) rfl rfl rfl rfl rfl (c_setConstant6 L ys d s hv l0 l3 l3r _ hW) (fun s1 hr => ?_)
  obtain ⟨s1v, hW⟩ := hr
  refine pq_l (pc' := 6) rfl rfl rfl rfl rfl ?_
  refine pq_gr (pc' := 9) (c := (l0 + 1)) (v := 0) rfl rfl rfl rfl rfl rfl s1v ?_
  refine pq_k (pc' := 10) (v := (0, 1)) rfl rfl rfl (fun _ => rfl) ?_
  refine pq_l (pc' := 11) rfl rfl rfl rfl rfl ?_
  refine pq_ls (pc' := 12) rfl rfl s1v (fun s3a s3b s3 s3e s3v => ?_)
  have hW := hW ⟨s3a, s3b⟩ s3 s3e
  refine pq_l (pc' := 13) rfl rfl rfl rfl rfl ?_
  refine pq_l (pc' := 14) rfl rfl rfl rfl rfl ?_
  refine pq_k (pc' := 15) (v := (1, 0)) rfl rfl rfl (fun _ => rfl) ?_
  refine pq_lcmp (pc' := 16) rfl rfl l1r (⟨by decide, by decide⟩ : lR 0) (fun z4 z4c => ?_)
  have J206 : ∀ v205 : Int, iR v205 → ((∀ s207, s207 = cpf s3 l0 0 v205 → (Q s207))) → pq L ys d N rm_p_X6_setLinear (27, [], [(0, v205), (2, ((l0 : Nat) : Int))], s3) (fun r : im_Re => r.1 = none ∧ (jI r.2 ∧ Q r.2)) := by
    intro v205 v205r hW
    refine pq_pX (pc' := 30) rfl rfl rfl rfl (fun e => absurd e (by decide)) (fun e => absurd e (by decide)) s3v (fun s207 s207e s207v => ?_)
    have hW := hW s207 s207e
    exact pq_vret rfl ⟨rfl, s207v, hW⟩
  refine pq_z_eq (pt := 23) (pc' := 19) rfl rfl rfl (fun c5 => ?_) (fun c5 => ?_)
  · have c5 : l1 = 0 := by omega
    refine pq_l (pc' := 24) rfl rfl rfl rfl rfl ?_
    refine pq_gi (pc' := 27) rfl rfl rfl rfl rfl (fun r6 => ?_)
    refine pq_w [] trivial ?_
    exact J206 (cgf s3 l0 0) r6 (hW _ (by rw [if_pos c5]))
  · have c5 : ¬ (l1 = 0) := by omega
    refine pq_k (pc' := 20) (v := (0, 1)) rfl rfl rfl (fun _ => rfl) ?_
    refine pq_goto (pc' := 27) rfl rfl ?_
    refine pq_w [] trivial ?_
    exact J206 1 (⟨by decide, by decide⟩ : iR 1) (hW _ (by rw [if_neg (fun z => c5 z)]))
def C_copy6_2 (K2 : Int × im_S → Prop) (l0 : Nat) (l1 : Nat) (l2 : Int) (s : im_S) (Q : im_S → Prop) : Prop := ((8 < l2 → (∀ s3, s3 = cpf s l0 0 (cgf s l1 0) → (Q s3))) ∧ (¬ (8 < l2) → (caJ s (l1 + 1) l2 → ((0 ≤ l2 ∧ l2 < gln (l0 + 1)) → ∀ s5, s5 = cpa s (l0 + 1) l2 (cga s (l1 + 1) l2) → (K2 ((w32 (l2 + 1)), s5))))))
def C_copy6 (l0 : Nat) (l1 : Nat) (s : im_S) (Q : im_S → Prop) : Prop := (ploop (fun (K : Int × im_S → Prop) (a : Int × im_S) => C_copy6_2 K l0 l1 a.1 a.2 Q) (0, s))
set_option maxRecDepth 16384 in
theorem c_copy6 (L : Nat) (ys : Nat → Int32) (d : Nat) (s : im_S) (hv : jI s) (l0 : Nat) (l1 : Nat) (Q : im_S → Prop) (hW : C_copy6 l0 l1 s Q) : pcV L ys d 170 [(2, ((l0 : Nat) : Int)), (2, ((l1 : Nat) : Int))] s (fun s9 => jI s9 ∧ Q s9) := by
  intro res hres
  refine pq_start (M := rm_p_X6_copy) (Q := (fun r : im_Re => r.1 = none ∧ (jI r.2 ∧ Q r.2))) om_X6_copy (fun d N => ?_) res hres
  refine pq_w [(0, (2, ((l0 : Nat) : Int))), (1, (2, ((l1 : Nat) : Int)))] ⟨rfl, rfl, trivial⟩ ?_
  have J2 : ∀ (l0 : Nat) (l1 : Nat) (I2 : Int × im_S → Prop) (hB2 : ∀ a : Int × im_S, I2 a → C_copy6_2 I2 l0 l1 a.1 a.2 Q), ∀ N2 : Nat, N2 ≤ N → ∀ (l2 : Int) (l2r : iR l2) (s : im_S) (hv : jI s), I2 (l2, s) → pq L ys d N2 rm_p_X6_copy (2, [(0, (2, ((l0 : Nat) : Int))), (1, (2, ((l1 : Nat) : Int))), (2, (0, l2))], [], s) (fun r : im_Re => r.1 = none ∧ (jI r.2 ∧ Q r.2)) := by
    intro l0 l1 I2 hB2 N2
    induction N2 using Nat.strongRecOn with
    | _ N2 ih2 =>
      intro hN2 l2 l2r s hv hI
      have hW : C_copy6_2 I2 l0 l1 l2 s Q := hB2 (l2, s) hI
      unfold C_copy6_2 at hW
      refine pq_l (pc' := 3) rfl rfl rfl rfl rfl ?_
      refine pq_k (pc' := 5) (v := (0, 8)) rfl rfl rfl (fun _ => rfl) ?_
      refine pq_c_gt (pt := 26) (pc' := 8) rfl rfl rfl (fun c1 => ?_) (fun c1 => ?_)
      · have hW := hW.1 c1
        refine pq_l (pc' := 27) rfl rfl rfl rfl rfl ?_
        refine pq_l (pc' := 28) rfl rfl rfl rfl rfl ?_
        refine pq_gi (pc' := 31) rfl rfl rfl rfl rfl (fun r2 => ?_)
        refine pq_pX (pc' := 34) rfl rfl rfl rfl (fun e => absurd e (by decide)) (fun e => absurd e (by decide)) hv (fun s3 s3e s3v => ?_)
        have hW := hW s3 s3e
        exact pq_vret rfl ⟨rfl, s3v, hW⟩
      · have hW := hW.2 c1
        refine pq_l (pc' := 9) rfl rfl rfl rfl rfl ?_
        refine pq_gr (pc' := 12) (c := (l0 + 1)) (v := 0) rfl rfl rfl rfl rfl rfl hv ?_
        refine pq_l (pc' := 13) rfl rfl rfl rfl rfl ?_
        refine pq_l (pc' := 14) rfl rfl rfl rfl rfl ?_
        refine pq_gr (pc' := 17) (c := (l1 + 1)) (v := 0) rfl rfl rfl rfl rfl rfl hv ?_
        refine pq_l (pc' := 18) rfl rfl rfl rfl rfl ?_
        refine pq_la (pc' := 19) rfl rfl (fun r4a r4b r4 => ?_)
        have hW := hW ⟨⟨r4a, r4b⟩, r4⟩
        refine pq_ls (pc' := 20) rfl rfl hv (fun s5a s5b s5 s5e s5v => ?_)
        have hW := hW ⟨s5a, s5b⟩ s5 s5e
        refine pq_inc (pc' := 23) rfl rfl rfl rfl ?_
        refine pq_gotoT (pc' := 2) rfl rfl (fun m6 m6l => ?_)
        refine pq_w [(0, (2, ((l0 : Nat) : Int))), (1, (2, ((l1 : Nat) : Int))), (2, (0, (w32 (l2 + 1))))] ⟨rfl, rfl, rfl, trivial⟩ ?_
        exact ih2 m6 (by omega) (by omega) (w32 (l2 + 1)) (w32_r _) s5 s5v hW
  unfold C_copy6 at hW
  refine pq_k (pc' := 1) (v := (0, 0)) rfl rfl rfl (fun _ => rfl) ?_
  refine pq_s (pc' := 2) rfl rfl rfl rfl rfl ?_
  refine pq_w [(0, (2, ((l0 : Nat) : Int))), (1, (2, ((l1 : Nat) : Int))), (2, (0, 0))] ⟨rfl, rfl, rfl, trivial⟩ ?_
  obtain ⟨I9, hI9, hB9⟩ := hW
  exact J2 l0 l1 I9 hB9 N (by omega) 0 (⟨by decide, by decide⟩ : iR 0) s hv hI9
def C_measure6_29 (K7 : Int × im_S → Prop) (l0 : Nat) (l1 : Int) (s : im_S) (Q : im_S → Prop) : Prop := (K7 ((w32 (l1 + 1)), s))
def C_measure6_7 (K7 : Int × im_S → Prop) (l0 : Nat) (l1 : Int) (s : im_S) (Q : im_S → Prop) : Prop := ((8 < l1 → (Q s)) ∧ (¬ (8 < l1) → (caJ s (l0 + 1) l1 → (((cga s (l0 + 1) l1) = 0 → (C_measure6_29 K7 l0 l1 s Q)) ∧ (¬ ((cga s (l0 + 1) l1) = 0) → (∀ s6, s6 = cpf s l0 0 l1 → (C_measure6_29 K7 l0 l1 s6 Q)))))))
def C_measure6 (l0 : Nat) (s : im_S) (Q : im_S → Prop) : Prop := (∀ s7, s7 = cpf s l0 0 (-1) → (ploop (fun (K : Int × im_S → Prop) (a : Int × im_S) => C_measure6_7 K l0 a.1 a.2 Q) (0, s7)))
set_option maxRecDepth 16384 in
theorem c_measure6 (L : Nat) (ys : Nat → Int32) (d : Nat) (s : im_S) (hv : jI s) (l0 : Nat) (Q : im_S → Prop) (hW : C_measure6 l0 s Q) : pcV L ys d 175 [(2, ((l0 : Nat) : Int))] s (fun s9 => jI s9 ∧ Q s9) := by
  intro res hres
  refine pq_start (M := rm_p_X6_measure) (Q := (fun r : im_Re => r.1 = none ∧ (jI r.2 ∧ Q r.2))) om_X6_measure (fun d N => ?_) res hres
  refine pq_w [(0, (2, ((l0 : Nat) : Int)))] ⟨rfl, trivial⟩ ?_
  have J7 : ∀ (l0 : Nat) (I7 : Int × im_S → Prop) (hB7 : ∀ a : Int × im_S, I7 a → C_measure6_7 I7 l0 a.1 a.2 Q), ∀ N7 : Nat, N7 ≤ N → ∀ (l1 : Int) (l1r : iR l1) (s : im_S) (hv : jI s), I7 (l1, s) → pq L ys d N7 rm_p_X6_measure (7, [(0, (2, ((l0 : Nat) : Int))), (1, (0, l1))], [], s) (fun r : im_Re => r.1 = none ∧ (jI r.2 ∧ Q r.2)) := by
    intro l0 I7 hB7 N7
    induction N7 using Nat.strongRecOn with
    | _ N7 ih7 =>
      intro hN7 l1 l1r s hv hI
      have hW : C_measure6_7 I7 l0 l1 s Q := hB7 (l1, s) hI
      have J29 : ∀ N29 : Nat, N29 ≤ N7 → ∀ (l1 : Int) (l1r : iR l1) (s : im_S) (hv : jI s), C_measure6_29 I7 l0 l1 s Q → pq L ys d N29 rm_p_X6_measure (29, [(0, (2, ((l0 : Nat) : Int))), (1, (0, l1))], [], s) (fun r : im_Re => r.1 = none ∧ (jI r.2 ∧ Q r.2)) := by
        intro N29 hN29 l1 l1r s hv hW
        unfold C_measure6_29 at hW
        refine pq_inc (pc' := 32) rfl rfl rfl rfl ?_
        refine pq_gotoT (pc' := 7) rfl rfl (fun m1 m1l => ?_)
        refine pq_w [(0, (2, ((l0 : Nat) : Int))), (1, (0, (w32 (l1 + 1))))] ⟨rfl, rfl, trivial⟩ ?_
        exact ih7 m1 (by omega) (by omega) (w32 (l1 + 1)) (w32_r _) s hv hW
      unfold C_measure6_7 at hW
      refine pq_l (pc' := 8) rfl rfl rfl rfl rfl ?_
      refine pq_k (pc' := 10) (v := (0, 8)) rfl rfl rfl (fun _ => rfl) ?_
      refine pq_c_gt (pt := 35) (pc' := 13) rfl rfl rfl (fun c2 => ?_) (fun c2 => ?_)
      · have hW := hW.1 c2
        exact pq_vret rfl ⟨rfl, hv, hW⟩
      · have hW := hW.2 c2
        refine pq_l (pc' := 14) rfl rfl rfl rfl rfl ?_
        refine pq_gr (pc' := 17) (c := (l0 + 1)) (v := 0) rfl rfl rfl rfl rfl rfl hv ?_
        refine pq_l (pc' := 18) rfl rfl rfl rfl rfl ?_
        refine pq_la (pc' := 19) rfl rfl (fun r3a r3b r3 => ?_)
        have hW := hW ⟨⟨r3a, r3b⟩, r3⟩
        refine pq_k (pc' := 20) (v := (1, 0)) rfl rfl rfl (fun _ => rfl) ?_
        refine pq_lcmp (pc' := 21) rfl rfl r3 (⟨by decide, by decide⟩ : lR 0) (fun z4 z4c => ?_)
        refine pq_z_eq (pt := 29) (pc' := 24) rfl rfl rfl (fun c5 => ?_) (fun c5 => ?_)
        · have c5 : (cga s (l0 + 1) l1) = 0 := by omega
          have hW := hW.1 c5
          refine pq_w [(0, (2, ((l0 : Nat) : Int))), (1, (0, l1))] ⟨rfl, rfl, trivial⟩ ?_
          exact J29 N7 (by omega) l1 l1r s hv hW
        · have c5 : ¬ ((cga s (l0 + 1) l1) = 0) := by omega
          have hW := hW.2 c5
          refine pq_l (pc' := 25) rfl rfl rfl rfl rfl ?_
          refine pq_l (pc' := 26) rfl rfl rfl rfl rfl ?_
          refine pq_pX (pc' := 29) rfl rfl rfl rfl (fun e => absurd e (by decide)) (fun e => absurd e (by decide)) hv (fun s6 s6e s6v => ?_)
          have hW := hW s6 s6e
          refine pq_w [(0, (2, ((l0 : Nat) : Int))), (1, (0, l1))] ⟨rfl, rfl, trivial⟩ ?_
          exact J29 N7 (by omega) l1 l1r s6 s6v hW
  unfold C_measure6 at hW
  refine pq_l (pc' := 1) rfl rfl rfl rfl rfl ?_
  refine pq_k (pc' := 2) (v := (0, (-1))) rfl rfl rfl (fun _ => rfl) ?_
  refine pq_pX (pc' := 5) rfl rfl rfl rfl (fun e => absurd e (by decide)) (fun e => absurd e (by decide)) hv (fun s7 s7e s7v => ?_)
  have hW := hW s7 s7e
  refine pq_k (pc' := 6) (v := (0, 0)) rfl rfl rfl (fun _ => rfl) ?_
  refine pq_s (pc' := 7) rfl rfl rfl rfl rfl ?_
  refine pq_w [(0, (2, ((l0 : Nat) : Int))), (1, (0, 0))] ⟨rfl, rfl, trivial⟩ ?_
  obtain ⟨I9, hI9, hB9⟩ := hW
  exact J7 l0 I9 hB9 N (by omega) 0 (⟨by decide, by decide⟩ : iR 0) s7 s7v hI9
def C_lead6 (l0 : Nat) (s : im_S) (Q : Int → im_S → Prop) : Prop := (∀ v202 : Int, v202 = (if 0 ≤ (cgf s l0 0) then (cga s (l0 + 1) (cgf s l0 0)) else 0) → (Q v202 s))
set_option maxRecDepth 16384 in
theorem c_lead6 (L : Nat) (ys : Nat → Int32) (d : Nat) (s : im_S) (hv : jI s) (l0 : Nat) (Q : Int → im_S → Prop) (hW : C_lead6 l0 s Q) : pcI L ys 1 d 173 [(2, ((l0 : Nat) : Int))] s (fun z9 s9 => jI s9 ∧ lR z9 ∧ Q z9 s9) := by
  intro res hres
  refine pq_start (M := rm_p_X6_lead) (Q := (fun r : im_Re => ∃ z, r.1 = some (1, z) ∧ (jI r.2 ∧ lR z ∧ Q z r.2))) om_X6_lead (fun d N => ?_) res hres
  refine pq_w [(0, (2, ((l0 : Nat) : Int)))] ⟨rfl, trivial⟩ ?_
  unfold C_lead6 at hW
  refine pq_l (pc' := 1) rfl rfl rfl rfl rfl ?_
  refine pq_gi (pc' := 4) rfl rfl rfl rfl rfl (fun r1 => ?_)
  have J203 : ∀ v202 : Int, lR v202 → ((Q v202 s)) → pq L ys d N rm_p_X6_lead (20, [], [(1, v202)], s) (fun r : im_Re => ∃ z, r.1 = some (1, z) ∧ (jI r.2 ∧ lR z ∧ Q z r.2)) := by
    intro v202 v202r hW
    exact pq_lret rfl ⟨_, rfl, hv, v202r, hW⟩
  refine pq_z_ge (pt := 11) (pc' := 7) rfl rfl rfl (fun c2 => ?_) (fun c2 => ?_)
  · refine pq_l (pc' := 12) rfl rfl rfl rfl rfl ?_
    refine pq_gr (pc' := 15) (c := (l0 + 1)) (v := 0) rfl rfl rfl rfl rfl rfl hv ?_
    refine pq_l (pc' := 16) rfl rfl rfl rfl rfl ?_
    refine pq_gi (pc' := 19) rfl rfl rfl rfl rfl (fun r3 => ?_)
    refine pq_la (pc' := 20) rfl rfl (fun r4a r4b r4 => ?_)
    refine pq_w [] trivial ?_
    exact J203 (cga s (l0 + 1) (cgf s l0 0)) r4 (hW _ (by rw [if_pos c2]))
  · refine pq_k (pc' := 8) (v := (1, 0)) rfl rfl rfl (fun _ => rfl) ?_
    refine pq_goto (pc' := 20) rfl rfl ?_
    refine pq_w [] trivial ?_
    exact J203 0 (⟨by decide, by decide⟩ : lR 0) (hW _ (by rw [if_neg (fun z => c2 z)]))
def C_setSlopeOf6_2 (K2 : Int × im_S → Prop) (l0 : Nat) (l1 : Nat) (l2 : Int) (s : im_S) (Q : im_S → Prop) : Prop := ((8 ≤ l2 → ((0 ≤ (8 : Int) ∧ (8 : Int) < gln (l0 + 1)) → ∀ s2, s2 = cpa s (l0 + 1) 8 0 → (C_measure6 l0 s2 (fun s3 => (Q s3))))) ∧ (¬ (8 ≤ l2) → (caJ s (l1 + 1) (w32 (l2 + 1)) → ((0 ≤ l2 ∧ l2 < gln (l0 + 1)) → ∀ s6, s6 = cpa s (l0 + 1) l2 (w64 ((cga s (l1 + 1) (w32 (l2 + 1))) * (w32 (l2 + 1)))) → (K2 ((w32 (l2 + 1)), s6))))))
def C_setSlopeOf6 (l0 : Nat) (l1 : Nat) (s : im_S) (Q : im_S → Prop) : Prop := (ploop (fun (K : Int × im_S → Prop) (a : Int × im_S) => C_setSlopeOf6_2 K l0 l1 a.1 a.2 Q) (0, s))
set_option maxRecDepth 16384 in
theorem c_setSlopeOf6 (L : Nat) (ys : Nat → Int32) (d : Nat) (s : im_S) (hv : jI s) (l0 : Nat) (l1 : Nat) (Q : im_S → Prop) (hW : C_setSlopeOf6 l0 l1 s Q) : pcV L ys d 178 [(2, ((l0 : Nat) : Int)), (2, ((l1 : Nat) : Int))] s (fun s9 => jI s9 ∧ Q s9) := by
  intro res hres
  refine pq_start (M := rm_p_X6_setSlopeOf) (Q := (fun r : im_Re => r.1 = none ∧ (jI r.2 ∧ Q r.2))) om_X6_setSlopeOf (fun d N => ?_) res hres
  refine pq_w [(0, (2, ((l0 : Nat) : Int))), (1, (2, ((l1 : Nat) : Int)))] ⟨rfl, rfl, trivial⟩ ?_
  have J2 : ∀ (l0 : Nat) (l1 : Nat) (I2 : Int × im_S → Prop) (hB2 : ∀ a : Int × im_S, I2 a → C_setSlopeOf6_2 I2 l0 l1 a.1 a.2 Q), ∀ N2 : Nat, N2 ≤ N → ∀ (l2 : Int) (l2r : iR l2) (s : im_S) (hv : jI s), I2 (l2, s) → pq L ys d N2 rm_p_X6_setSlopeOf (2, [(0, (2, ((l0 : Nat) : Int))), (1, (2, ((l1 : Nat) : Int))), (2, (0, l2))], [], s) (fun r : im_Re => r.1 = none ∧ (jI r.2 ∧ Q r.2)) := by
    intro l0 l1 I2 hB2 N2
    induction N2 using Nat.strongRecOn with
    | _ N2 ih2 =>
      intro hN2 l2 l2r s hv hI
      have hW : C_setSlopeOf6_2 I2 l0 l1 l2 s Q := hB2 (l2, s) hI
      unfold C_setSlopeOf6_2 at hW
      refine pq_l (pc' := 3) rfl rfl rfl rfl rfl ?_
      refine pq_k (pc' := 5) (v := (0, 8)) rfl rfl rfl (fun _ => rfl) ?_
      refine pq_c_ge (pt := 33) (pc' := 8) rfl rfl rfl (fun c1 => ?_) (fun c1 => ?_)
      · have hW := hW.1 c1
        refine pq_l (pc' := 34) rfl rfl rfl rfl rfl ?_
        refine pq_gr (pc' := 37) (c := (l0 + 1)) (v := 0) rfl rfl rfl rfl rfl rfl hv ?_
        refine pq_k (pc' := 39) (v := (0, 8)) rfl rfl rfl (fun _ => rfl) ?_
        refine pq_k (pc' := 40) (v := (1, 0)) rfl rfl rfl (fun _ => rfl) ?_
        refine pq_ls (pc' := 41) rfl rfl hv (fun s2a s2b s2 s2e s2v => ?_)
        have hW := hW ⟨s2a, s2b⟩ s2 s2e
        refine pq_l (pc' := 42) rfl rfl rfl rfl rfl ?_
        refine pq_cVV (pc' := 45) rfl rfl rfl rfl rfl (c_measure6 L ys d s2 s2v l0 _ hW) (fun s3 hr => ?_)
        obtain ⟨s3v, hW⟩ := hr
        exact pq_vret rfl ⟨rfl, s3v, hW⟩
      · have hW := hW.2 c1
        refine pq_l (pc' := 9) rfl rfl rfl rfl rfl ?_
        refine pq_gr (pc' := 12) (c := (l0 + 1)) (v := 0) rfl rfl rfl rfl rfl rfl hv ?_
        refine pq_l (pc' := 13) rfl rfl rfl rfl rfl ?_
        refine pq_l (pc' := 14) rfl rfl rfl rfl rfl ?_
        refine pq_gr (pc' := 17) (c := (l1 + 1)) (v := 0) rfl rfl rfl rfl rfl rfl hv ?_
        refine pq_l (pc' := 18) rfl rfl rfl rfl rfl ?_
        refine pq_k (pc' := 19) (v := (0, 1)) rfl rfl rfl (fun _ => rfl) ?_
        refine pq_add (pc' := 20) rfl rfl ?_
        refine pq_la (pc' := 21) rfl rfl (fun r5a r5b r5 => ?_)
        have hW := hW ⟨⟨r5a, r5b⟩, r5⟩
        refine pq_l (pc' := 22) rfl rfl rfl rfl rfl ?_
        refine pq_k (pc' := 23) (v := (0, 1)) rfl rfl rfl (fun _ => rfl) ?_
        refine pq_add (pc' := 24) rfl rfl ?_
        refine pq_i2l (pc' := 25) rfl rfl (w32_r _) ?_
        refine pq_lmul (pc' := 26) rfl rfl ?_
        refine pq_ls (pc' := 27) rfl rfl hv (fun s6a s6b s6 s6e s6v => ?_)
        have hW := hW ⟨s6a, s6b⟩ s6 s6e
        refine pq_inc (pc' := 30) rfl rfl rfl rfl ?_
        refine pq_gotoT (pc' := 2) rfl rfl (fun m7 m7l => ?_)
        refine pq_w [(0, (2, ((l0 : Nat) : Int))), (1, (2, ((l1 : Nat) : Int))), (2, (0, (w32 (l2 + 1))))] ⟨rfl, rfl, rfl, trivial⟩ ?_
        exact ih2 m7 (by omega) (by omega) (w32 (l2 + 1)) (w32_r _) s6 s6v hW
  unfold C_setSlopeOf6 at hW
  refine pq_k (pc' := 1) (v := (0, 0)) rfl rfl rfl (fun _ => rfl) ?_
  refine pq_s (pc' := 2) rfl rfl rfl rfl rfl ?_
  refine pq_w [(0, (2, ((l0 : Nat) : Int))), (1, (2, ((l1 : Nat) : Int))), (2, (0, 0))] ⟨rfl, rfl, rfl, trivial⟩ ?_
  obtain ⟨I9, hI9, hB9⟩ := hW
  exact J2 l0 l1 I9 hB9 N (by omega) 0 (⟨by decide, by decide⟩ : iR 0) s hv hI9
def C_gcd6_51 (l4 : Int) (s : im_S) (Q : Int → im_S → Prop) : Prop := (Q l4 s)
def C_gcd6_15 (K15 : Int × Int × Int × im_S → Prop) (l4 : Int) (l6 : Int) (l8 : Int) (s : im_S) (Q : Int → im_S → Prop) : Prop := ((200 ≤ l8 → (C_gcd6_51 l4 s Q)) ∧ (¬ (200 ≤ l8) → ((l6 = 0 → (C_gcd6_51 l4 s Q)) ∧ (¬ (l6 = 0) → (K15 (l6, (remJ l4 l6), (w32 (l8 + 1)), s))))))
def C_gcd6 (l0 : Int) (l2 : Int) (s : im_S) (Q : Int → im_S → Prop) : Prop := (C_J9_abs_067f4 l0 s (fun z6 s5 => (C_J9_abs_067f4 l2 s5 (fun z8 s7 => (ploop (fun (K : Int × Int × Int × im_S → Prop) (a : Int × Int × Int × im_S) => C_gcd6_15 K a.1 a.2.1 a.2.2.1 a.2.2.2 Q) (z6, z8, 0, s7))))))
set_option maxRecDepth 16384 in
theorem c_gcd6 (L : Nat) (ys : Nat → Int32) (d : Nat) (s : im_S) (hv : jI s) (l0 : Int) (l0r : lR l0) (l2 : Int) (l2r : lR l2) (Q : Int → im_S → Prop) (hW : C_gcd6 l0 l2 s Q) : pcI L ys 1 d 171 [(1, l0), (1, l2)] s (fun z9 s9 => jI s9 ∧ lR z9 ∧ Q z9 s9) := by
  intro res hres
  refine pq_start (M := rm_p_X6_gcd) (Q := (fun r : im_Re => ∃ z, r.1 = some (1, z) ∧ (jI r.2 ∧ lR z ∧ Q z r.2))) om_X6_gcd (fun d N => ?_) res hres
  refine pq_w [(0, (1, l0)), (2, (1, l2))] ⟨rfl, rfl, trivial⟩ ?_
  have J51 : ∀ N51 : Nat, N51 ≤ N → ∀ (l4 : Int) (l4r : lR l4) (s : im_S) (hv : jI s), C_gcd6_51 l4 s Q → pq L ys d N51 rm_p_X6_gcd (51, [(4, (1, l4))], [], s) (fun r : im_Re => ∃ z, r.1 = some (1, z) ∧ (jI r.2 ∧ lR z ∧ Q z r.2)) := by
    intro N51 hN51 l4 l4r s hv hW
    unfold C_gcd6_51 at hW
    refine pq_l (pc' := 53) rfl rfl rfl rfl rfl ?_
    exact pq_lret rfl ⟨_, rfl, hv, l4r, hW⟩
  have J15 : ∀ (I15 : Int × Int × Int × im_S → Prop) (hB15 : ∀ a : Int × Int × Int × im_S, I15 a → C_gcd6_15 I15 a.1 a.2.1 a.2.2.1 a.2.2.2 Q), ∀ N15 : Nat, N15 ≤ N → ∀ (l4 : Int) (l4r : lR l4) (l6 : Int) (l6r : lR l6) (l8 : Int) (l8r : iR l8) (s : im_S) (hv : jI s), I15 (l4, l6, l8, s) → pq L ys d N15 rm_p_X6_gcd (15, [(4, (1, l4)), (6, (1, l6)), (8, (0, l8))], [], s) (fun r : im_Re => ∃ z, r.1 = some (1, z) ∧ (jI r.2 ∧ lR z ∧ Q z r.2)) := by
    intro I15 hB15 N15
    induction N15 using Nat.strongRecOn with
    | _ N15 ih15 =>
      intro hN15 l4 l4r l6 l6r l8 l8r s hv hI
      have hW : C_gcd6_15 I15 l4 l6 l8 s Q := hB15 (l4, l6, l8, s) hI
      unfold C_gcd6_15 at hW
      refine pq_l (pc' := 17) rfl rfl rfl rfl rfl ?_
      refine pq_k (pc' := 20) (v := (0, 200)) rfl rfl rfl (fun _ => rfl) ?_
      refine pq_c_ge (pt := 51) (pc' := 23) rfl rfl rfl (fun c1 => ?_) (fun c1 => ?_)
      · have hW := hW.1 c1
        refine pq_w [(4, (1, l4))] ⟨rfl, trivial⟩ ?_
        exact J51 N15 (by omega) l4 l4r s hv hW
      · have hW := hW.2 c1
        refine pq_l (pc' := 25) rfl rfl rfl rfl rfl ?_
        refine pq_k (pc' := 26) (v := (1, 0)) rfl rfl rfl (fun _ => rfl) ?_
        refine pq_lcmp (pc' := 27) rfl rfl l6r (⟨by decide, by decide⟩ : lR 0) (fun z2 z2c => ?_)
        refine pq_z_eq (pt := 51) (pc' := 30) rfl rfl rfl (fun c3 => ?_) (fun c3 => ?_)
        · have c3 : l6 = 0 := by omega
          have hW := hW.1 c3
          refine pq_w [(4, (1, l4))] ⟨rfl, trivial⟩ ?_
          exact J51 N15 (by omega) l4 l4r s hv hW
        · have c3 : ¬ (l6 = 0) := by omega
          have hW := hW.2 c3
          refine pq_l (pc' := 32) rfl rfl rfl rfl rfl ?_
          refine pq_l (pc' := 34) rfl rfl rfl rfl rfl ?_
          refine pq_lrem (pc' := 35) rfl rfl ?_
          refine pq_s2 (pc' := 37) rfl rfl rfl rfl rfl ?_
          refine pq_l (pc' := 39) rfl rfl rfl rfl rfl ?_
          refine pq_s2 (pc' := 41) rfl rfl rfl rfl rfl ?_
          refine pq_l (pc' := 43) rfl rfl rfl rfl rfl ?_
          refine pq_s2 (pc' := 45) rfl rfl rfl rfl rfl ?_
          refine pq_inc (pc' := 48) rfl rfl rfl rfl ?_
          refine pq_gotoT (pc' := 15) rfl rfl (fun m4 m4l => ?_)
          refine pq_w [(4, (1, l6)), (6, (1, (remJ l4 l6))), (8, (0, (w32 (l8 + 1))))] ⟨rfl, rfl, rfl, trivial⟩ ?_
          exact ih15 m4 (by omega) (by omega) l6 l6r (remJ l4 l6) (remJ_r _ _) (w32 (l8 + 1)) (w32_r _) s hv hW
  unfold C_gcd6 at hW
  refine pq_l (pc' := 1) rfl rfl rfl rfl rfl ?_
  refine pq_cSI (pc' := 4) rfl rfl rfl rfl rfl (c_J9_abs_067f4 L ys d s hv l0 l0r _ hW) (fun z6 s5 hr => ?_)
  obtain ⟨s5v, z6r, hW⟩ := hr
  refine pq_s2 (pc' := 6) rfl rfl rfl rfl rfl ?_
  refine pq_l (pc' := 7) rfl rfl rfl rfl rfl ?_
  refine pq_cSI (pc' := 10) rfl rfl rfl rfl rfl (c_J9_abs_067f4 L ys d s5 s5v l2 l2r _ hW) (fun z8 s7 hr => ?_)
  obtain ⟨s7v, z8r, hW⟩ := hr
  refine pq_s2 (pc' := 12) rfl rfl rfl rfl rfl ?_
  refine pq_k (pc' := 13) (v := (0, 0)) rfl rfl rfl (fun _ => rfl) ?_
  refine pq_s (pc' := 15) rfl rfl rfl rfl rfl ?_
  refine pq_w [(4, (1, z6)), (6, (1, z8)), (8, (0, 0))] ⟨rfl, rfl, rfl, trivial⟩ ?_
  obtain ⟨I9, hI9, hB9⟩ := hW
  exact J15 I9 hB9 N (by omega) z6 z6r z8 z8r 0 (⟨by decide, by decide⟩ : iR 0) s7 s7v hI9
def C_makePrimitive6_69 (s : im_S) (Q : im_S → Prop) : Prop := (Q s)
def C_makePrimitive6_47 (K47 : Int × im_S → Prop) (l0 : Nat) (l1 : Int) (l3 : Int) (s : im_S) (Q : im_S → Prop) : Prop := ((8 < l3 → (C_makePrimitive6_69 s Q)) ∧ (¬ (8 < l3) → (caJ s (l0 + 1) l3 → ((0 ≤ l3 ∧ l3 < gln (l0 + 1)) → ∀ s3, s3 = cpa s (l0 + 1) l3 (divJ (cga s (l0 + 1) l3) l1) → (K47 ((w32 (l3 + 1)), s3))))))
def C_makePrimitive6_4 (K4 : Int × Int × im_S → Prop) (l0 : Nat) (l1 : Int) (l3 : Int) (s : im_S) (Q : im_S → Prop) : Prop := ((8 < l3 → (C_lead6 l0 s (fun z7 s6 => (∀ v209 : Int, v209 = (if 0 ≤ z7 then l1 else (w64 (-l1))) → ((v209 = 0 → (C_makePrimitive6_69 s6 Q)) ∧ (¬ (v209 = 0) → (ploop (fun (K : Int × im_S → Prop) (a : Int × im_S) => C_makePrimitive6_47 K l0 v209 a.1 a.2 Q) (0, s6)))))))) ∧ (¬ (8 < l3) → (caJ s (l0 + 1) l3 → (C_gcd6 l1 (cga s (l0 + 1) l3) s (fun z215 s214 => (K4 (z215, (w32 (l3 + 1)), s214)))))))
def C_makePrimitive6 (l0 : Nat) (s : im_S) (Q : im_S → Prop) : Prop := (ploop (fun (K : Int × Int × im_S → Prop) (a : Int × Int × im_S) => C_makePrimitive6_4 K l0 a.1 a.2.1 a.2.2 Q) (0, 0, s))
set_option maxRecDepth 16384 in
theorem c_makePrimitive6 (L : Nat) (ys : Nat → Int32) (d : Nat) (s : im_S) (hv : jI s) (l0 : Nat) (Q : im_S → Prop) (hW : C_makePrimitive6 l0 s Q) : pcV L ys d 174 [(2, ((l0 : Nat) : Int))] s (fun s9 => jI s9 ∧ Q s9) := by
  intro res hres
  refine pq_start (M := rm_p_X6_makePrimitive) (Q := (fun r : im_Re => r.1 = none ∧ (jI r.2 ∧ Q r.2))) om_X6_makePrimitive (fun d N => ?_) res hres
  refine pq_w [(0, (2, ((l0 : Nat) : Int)))] ⟨rfl, trivial⟩ ?_
  have J69 : ∀ N69 : Nat, N69 ≤ N → ∀ (s : im_S) (hv : jI s), C_makePrimitive6_69 s Q → pq L ys d N69 rm_p_X6_makePrimitive (69, [], [], s) (fun r : im_Re => r.1 = none ∧ (jI r.2 ∧ Q r.2)) := by
    intro N69 hN69 s hv hW
    unfold C_makePrimitive6_69 at hW
    exact pq_vret rfl ⟨rfl, hv, hW⟩
  have J47 : ∀ (l0 : Nat) (l1 : Int) (l1r : lR l1) (I47 : Int × im_S → Prop) (hB47 : ∀ a : Int × im_S, I47 a → C_makePrimitive6_47 I47 l0 l1 a.1 a.2 Q), ∀ N47 : Nat, N47 ≤ N → ∀ (l3 : Int) (l3r : iR l3) (s : im_S) (hv : jI s), I47 (l3, s) → pq L ys d N47 rm_p_X6_makePrimitive (47, [(0, (2, ((l0 : Nat) : Int))), (1, (1, l1)), (3, (0, l3))], [], s) (fun r : im_Re => r.1 = none ∧ (jI r.2 ∧ Q r.2)) := by
    intro l0 l1 l1r I47 hB47 N47
    induction N47 using Nat.strongRecOn with
    | _ N47 ih47 =>
      intro hN47 l3 l3r s hv hI
      have hW : C_makePrimitive6_47 I47 l0 l1 l3 s Q := hB47 (l3, s) hI
      unfold C_makePrimitive6_47 at hW
      refine pq_l (pc' := 48) rfl rfl rfl rfl rfl ?_
      refine pq_k (pc' := 50) (v := (0, 8)) rfl rfl rfl (fun _ => rfl) ?_
      refine pq_c_gt (pt := 69) (pc' := 53) rfl rfl rfl (fun c1 => ?_) (fun c1 => ?_)
      · have hW := hW.1 c1
        refine pq_w [] trivial ?_
        exact J69 N47 (by omega) s hv hW
      · have hW := hW.2 c1
        refine pq_l (pc' := 54) rfl rfl rfl rfl rfl ?_
        refine pq_gr (pc' := 57) (c := (l0 + 1)) (v := 0) rfl rfl rfl rfl rfl rfl hv ?_
        refine pq_l (pc' := 58) rfl rfl rfl rfl rfl ?_
        refine pq_x (pc' := 59) rfl rfl rfl (fun _ => rfl) ?_
        refine pq_la (pc' := 60) rfl rfl (fun r2a r2b r2 => ?_)
        have hW := hW ⟨⟨r2a, r2b⟩, r2⟩
        refine pq_l (pc' := 61) rfl rfl rfl rfl rfl ?_
        refine pq_ldiv (pc' := 62) rfl rfl ?_
        refine pq_ls (pc' := 63) rfl rfl hv (fun s3a s3b s3 s3e s3v => ?_)
        have hW := hW ⟨s3a, s3b⟩ s3 s3e
        refine pq_inc (pc' := 66) rfl rfl rfl rfl ?_
        refine pq_gotoT (pc' := 47) rfl rfl (fun m4 m4l => ?_)
        refine pq_w [(0, (2, ((l0 : Nat) : Int))), (1, (1, l1)), (3, (0, (w32 (l3 + 1))))] ⟨rfl, rfl, rfl, trivial⟩ ?_
        exact ih47 m4 (by omega) (by omega) (w32 (l3 + 1)) (w32_r _) s3 s3v hW
  have J4 : ∀ (l0 : Nat) (I4 : Int × Int × im_S → Prop) (hB4 : ∀ a : Int × Int × im_S, I4 a → C_makePrimitive6_4 I4 l0 a.1 a.2.1 a.2.2 Q), ∀ N4 : Nat, N4 ≤ N → ∀ (l1 : Int) (l1r : lR l1) (l3 : Int) (l3r : iR l3) (s : im_S) (hv : jI s), I4 (l1, l3, s) → pq L ys d N4 rm_p_X6_makePrimitive (4, [(0, (2, ((l0 : Nat) : Int))), (1, (1, l1)), (3, (0, l3))], [], s) (fun r : im_Re => r.1 = none ∧ (jI r.2 ∧ Q r.2)) := by
    intro l0 I4 hB4 N4
    induction N4 using Nat.strongRecOn with
    | _ N4 ih4 =>
      intro hN4 l1 l1r l3 l3r s hv hI
      have hW : C_makePrimitive6_4 I4 l0 l1 l3 s Q := hB4 (l1, l3, s) hI
      unfold C_makePrimitive6_4 at hW
      refine pq_l (pc' := 5) rfl rfl rfl rfl rfl ?_
      refine pq_k (pc' := 7) (v := (0, 8)) rfl rfl rfl (fun _ => rfl) ?_
      refine pq_c_gt (pt := 27) (pc' := 10) rfl rfl rfl (fun c5 => ?_) (fun c5 => ?_)
      · have hW := hW.1 c5
        refine pq_l (pc' := 28) rfl rfl rfl rfl rfl ?_
        refine pq_cVI (pc' := 31) rfl rfl rfl rfl rfl (c_lead6 L ys d s hv l0 _ hW) (fun z7 s6 hr => ?_)
        obtain ⟨s6v, z7r, hW⟩ := hr
        refine pq_k (pc' := 32) (v := (1, 0)) rfl rfl rfl (fun _ => rfl) ?_
        refine pq_lcmp (pc' := 33) rfl rfl z7r (⟨by decide, by decide⟩ : lR 0) (fun z8 z8c => ?_)
        have J210 : ∀ v209 : Int, lR v209 → (((v209 = 0 → (C_makePrimitive6_69 s6 Q)) ∧ (¬ (v209 = 0) → (ploop (fun (K : Int × im_S → Prop) (a : Int × im_S) => C_makePrimitive6_47 K l0 v209 a.1 a.2 Q) (0, s6))))) → pq L ys d N4 rm_p_X6_makePrimitive (39, [(0, (2, ((l0 : Nat) : Int))), (1, (1, v209))], [], s6) (fun r : im_Re => r.1 = none ∧ (jI r.2 ∧ Q r.2)) := by
          intro v209 v209r hW
          refine pq_l (pc' := 40) rfl rfl rfl rfl rfl ?_
          refine pq_k (pc' := 41) (v := (1, 0)) rfl rfl rfl (fun _ => rfl) ?_
          refine pq_lcmp (pc' := 42) rfl rfl v209r (⟨by decide, by decide⟩ : lR 0) (fun z211 z211c => ?_)
          refine pq_z_eq (pt := 69) (pc' := 45) rfl rfl rfl (fun c212 => ?_) (fun c212 => ?_)
          · have c212 : v209 = 0 := by omega
            have hW := hW.1 c212
            refine pq_w [] trivial ?_
            exact J69 N4 (by omega) s6 s6v hW
          · have c212 : ¬ (v209 = 0) := by omega
            have hW := hW.2 c212
            refine pq_k (pc' := 46) (v := (0, 0)) rfl rfl rfl (fun _ => rfl) ?_
            refine pq_s (pc' := 47) rfl rfl rfl rfl rfl ?_
            refine pq_w [(0, (2, ((l0 : Nat) : Int))), (1, (1, v209)), (3, (0, 0))] ⟨rfl, rfl, rfl, trivial⟩ ?_
            obtain ⟨I9, hI9, hB9⟩ := hW
            exact J47 l0 v209 v209r I9 hB9 N4 (by omega) 0 (⟨by decide, by decide⟩ : iR 0) s6 s6v hI9
        refine pq_z_ge (pt := 39) (pc' := 36) rfl rfl rfl (fun c9 => ?_) (fun c9 => ?_)
        · have c9 : 0 ≤ z7 := by omega
          refine pq_w [(0, (2, ((l0 : Nat) : Int))), (1, (1, l1))] ⟨rfl, rfl, trivial⟩ ?_
          exact J210 l1 l1r (hW _ (by rw [if_pos c9]))
        · have c9 : ¬ (0 ≤ z7) := by omega
          refine pq_l (pc' := 37) rfl rfl rfl rfl rfl ?_
          refine pq_lneg (pc' := 38) rfl rfl ?_
          refine pq_s2 (pc' := 39) rfl rfl rfl rfl rfl ?_
          refine pq_w [(0, (2, ((l0 : Nat) : Int))), (1, (1, (w64 (-l1))))] ⟨rfl, rfl, trivial⟩ ?_
          exact J210 (w64 (-l1)) (w64_r _) (hW _ (by rw [if_neg (fun z => c9 z)]))
      · have hW := hW.2 c5
        refine pq_l (pc' := 11) rfl rfl rfl rfl rfl ?_
        refine pq_l (pc' := 12) rfl rfl rfl rfl rfl ?_
        refine pq_gr (pc' := 15) (c := (l0 + 1)) (v := 0) rfl rfl rfl rfl rfl rfl hv ?_
        refine pq_l (pc' := 16) rfl rfl rfl rfl rfl ?_
        refine pq_la (pc' := 17) rfl rfl (fun r213a r213b r213 => ?_)
        have hW := hW ⟨⟨r213a, r213b⟩, r213⟩
        refine pq_cSI (pc' := 20) rfl rfl rfl rfl rfl (c_gcd6 L ys d s hv l1 l1r (cga s (l0 + 1) l3) r213 _ hW) (fun z215 s214 hr => ?_)
        obtain ⟨s214v, z215r, hW⟩ := hr
        refine pq_s2 (pc' := 21) rfl rfl rfl rfl rfl ?_
        refine pq_inc (pc' := 24) rfl rfl rfl rfl ?_
        refine pq_gotoT (pc' := 4) rfl rfl (fun m216 m216l => ?_)
        refine pq_w [(0, (2, ((l0 : Nat) : Int))), (1, (1, z215)), (3, (0, (w32 (l3 + 1))))] ⟨rfl, rfl, rfl, trivial⟩ ?_
        exact ih4 m216 (by omega) (by omega) z215 z215r (w32 (l3 + 1)) (w32_r _) s214 s214v hW
  unfold C_makePrimitive6 at hW
  refine pq_k (pc' := 1) (v := (1, 0)) rfl rfl rfl (fun _ => rfl) ?_
  refine pq_s2 (pc' := 2) rfl rfl rfl rfl rfl ?_
  refine pq_k (pc' := 3) (v := (0, 0)) rfl rfl rfl (fun _ => rfl) ?_
  refine pq_s (pc' := 4) rfl rfl rfl rfl rfl ?_
  refine pq_w [(0, (2, ((l0 : Nat) : Int))), (1, (1, 0)), (3, (0, 0))] ⟨rfl, rfl, rfl, trivial⟩ ?_
  obtain ⟨I9, hI9, hB9⟩ := hW
  exact J4 l0 I9 hB9 N (by omega) 0 (⟨by decide, by decide⟩ : lR 0) 0 (⟨by decide, by decide⟩ : iR 0) s hv hI9
def C_degreeOf2_23 (l1 : Int) (s : im_S) (Q : Int → im_S → Prop) : Prop := (Q l1 s)
def C_degreeOf2_5 (K5 : Int × im_S → Prop) (l0 : Nat) (l1 : Int) (s : im_S) (Q : Int → im_S → Prop) : Prop := ((l1 < 0 → (C_degreeOf2_23 l1 s Q)) ∧ (¬ (l1 < 0) → (caJ s l0 l1 → ((¬ ((cga s l0 l1) = 0) → (C_degreeOf2_23 l1 s Q)) ∧ ((cga s l0 l1) = 0 → (K5 ((w32 (l1 + (-1))), s)))))))
def C_degreeOf2 (l0 : Nat) (s : im_S) (Q : Int → im_S → Prop) : Prop := (ploop (fun (K : Int × im_S → Prop) (a : Int × im_S) => C_degreeOf2_5 K l0 a.1 a.2 Q) ((w32 ((gln l0) - 1)), s))
set_option maxRecDepth 16384 in
theorem c_degreeOf2 (L : Nat) (ys : Nat → Int32) (d : Nat) (s : im_S) (hv : jI s) (l0 : Nat) (Q : Int → im_S → Prop) (hW : C_degreeOf2 l0 s Q) : pcI L ys 0 d 123 [(2, ((l0 : Nat) : Int))] s (fun z9 s9 => jI s9 ∧ iR z9 ∧ Q z9 s9) := by
  intro res hres
  refine pq_start (M := rm_p_X2_degreeOf) (Q := (fun r : im_Re => ∃ z, r.1 = some (0, z) ∧ (jI r.2 ∧ iR z ∧ Q z r.2))) om_X2_degreeOf (fun d N => ?_) res hres
  refine pq_w [(0, (2, ((l0 : Nat) : Int)))] ⟨rfl, trivial⟩ ?_
  have J23 : ∀ N23 : Nat, N23 ≤ N → ∀ (l1 : Int) (l1r : iR l1) (s : im_S) (hv : jI s), C_degreeOf2_23 l1 s Q → pq L ys d N23 rm_p_X2_degreeOf (23, [(1, (0, l1))], [], s) (fun r : im_Re => ∃ z, r.1 = some (0, z) ∧ (jI r.2 ∧ iR z ∧ Q z r.2)) := by
    intro N23 hN23 l1 l1r s hv hW
    unfold C_degreeOf2_23 at hW
    refine pq_l (pc' := 24) rfl rfl rfl rfl rfl ?_
    exact pq_iret rfl ⟨_, rfl, hv, l1r, hW⟩
  have J5 : ∀ (l0 : Nat) (I5 : Int × im_S → Prop) (hB5 : ∀ a : Int × im_S, I5 a → C_degreeOf2_5 I5 l0 a.1 a.2 Q), ∀ N5 : Nat, N5 ≤ N → ∀ (l1 : Int) (l1r : iR l1) (s : im_S) (hv : jI s), I5 (l1, s) → pq L ys d N5 rm_p_X2_degreeOf (5, [(0, (2, ((l0 : Nat) : Int))), (1, (0, l1))], [], s) (fun r : im_Re => ∃ z, r.1 = some (0, z) ∧ (jI r.2 ∧ iR z ∧ Q z r.2)) := by
    intro l0 I5 hB5 N5
    induction N5 using Nat.strongRecOn with
    | _ N5 ih5 =>
      intro hN5 l1 l1r s hv hI
      have hW : C_degreeOf2_5 I5 l0 l1 s Q := hB5 (l1, s) hI
      unfold C_degreeOf2_5 at hW
      refine pq_l (pc' := 6) rfl rfl rfl rfl rfl ?_
      refine pq_z_lt (pt := 23) (pc' := 9) rfl rfl rfl (fun c1 => ?_) (fun c1 => ?_)
      · have hW := hW.1 c1
        refine pq_w [(1, (0, l1))] ⟨rfl, trivial⟩ ?_
        exact J23 N5 (by omega) l1 l1r s hv hW
      · have hW := hW.2 c1
        refine pq_l (pc' := 10) rfl rfl rfl rfl rfl ?_
        refine pq_l (pc' := 11) rfl rfl rfl rfl rfl ?_
        refine pq_la (pc' := 12) rfl rfl (fun r2a r2b r2 => ?_)
        have hW := hW ⟨⟨r2a, r2b⟩, r2⟩
        refine pq_k (pc' := 13) (v := (1, 0)) rfl rfl rfl (fun _ => rfl) ?_
        refine pq_lcmp (pc' := 14) rfl rfl r2 (⟨by decide, by decide⟩ : lR 0) (fun z3 z3c => ?_)
        refine pq_z_ne (pt := 23) (pc' := 17) rfl rfl rfl (fun c4 => ?_) (fun c4 => ?_)
        · have c4 : ¬ ((cga s l0 l1) = 0) := by omega
          have hW := hW.1 c4
          refine pq_w [(1, (0, l1))] ⟨rfl, trivial⟩ ?_
          exact J23 N5 (by omega) l1 l1r s hv hW
        · have c4 : (cga s l0 l1) = 0 := by omega
          have hW := hW.2 c4
          refine pq_inc (pc' := 20) rfl rfl rfl rfl ?_
          refine pq_gotoT (pc' := 5) rfl rfl (fun m5 m5l => ?_)
          refine pq_w [(0, (2, ((l0 : Nat) : Int))), (1, (0, (w32 (l1 + (-1)))))] ⟨rfl, rfl, trivial⟩ ?_
          exact ih5 m5 (by omega) (by omega) (w32 (l1 + (-1))) (w32_r _) s hv hW
  unfold C_degreeOf2 at hW
  refine pq_l (pc' := 1) rfl rfl rfl rfl rfl ?_
  refine pq_alen (pc' := 2) rfl rfl ?_
  refine pq_k (pc' := 3) (v := (0, 1)) rfl rfl rfl (fun _ => rfl) ?_
  refine pq_sub (pc' := 4) rfl rfl ?_
  refine pq_s (pc' := 5) rfl rfl rfl rfl rfl ?_
  refine pq_w [(0, (2, ((l0 : Nat) : Int))), (1, (0, (w32 ((gln l0) - 1))))] ⟨rfl, rfl, trivial⟩ ?_
  obtain ⟨I9, hI9, hB9⟩ := hW
  exact J5 l0 I9 hB9 N (by omega) (w32 ((gln l0) - 1)) (w32_r _) s hv hI9
def C_J9_floorMod_f86c9_25 (l4 : Int) (s : im_S) (Q : Int → im_S → Prop) : Prop := (Q l4 s)
def C_J9_floorMod_f86c9 (l0 : Int) (l2 : Int) (s : im_S) (Q : Int → im_S → Prop) : Prop := ((0 ≤ (xorJ l0 l2) → (C_J9_floorMod_f86c9_25 (remJ l0 l2) s Q)) ∧ (¬ (0 ≤ (xorJ l0 l2)) → (((remJ l0 l2) = 0 → (C_J9_floorMod_f86c9_25 (remJ l0 l2) s Q)) ∧ (¬ ((remJ l0 l2) = 0) → (Q (w64 ((remJ l0 l2) + l2)) s)))))
set_option maxRecDepth 16384 in
theorem c_J9_floorMod_f86c9 (L : Nat) (ys : Nat → Int32) (d : Nat) (s : im_S) (hv : jI s) (l0 : Int) (l0r : lR l0) (l2 : Int) (l2r : lR l2) (Q : Int → im_S → Prop) (hW : C_J9_floorMod_f86c9 l0 l2 s Q) : pcI L ys 1 d 241 [(1, l0), (1, l2)] s (fun z9 s9 => jI s9 ∧ lR z9 ∧ Q z9 s9) := by
  intro res hres
  refine pq_start (M := rm_p_J9_floorMod_f86c9) (Q := (fun r : im_Re => ∃ z, r.1 = some (1, z) ∧ (jI r.2 ∧ lR z ∧ Q z r.2))) om_J9_floorMod_f86c9 (fun d N => ?_) res hres
  refine pq_w [(0, (1, l0)), (2, (1, l2))] ⟨rfl, rfl, trivial⟩ ?_
  have J25 : ∀ N25 : Nat, N25 ≤ N → ∀ (l4 : Int) (l4r : lR l4) (s : im_S) (hv : jI s), C_J9_floorMod_f86c9_25 l4 s Q → pq L ys d N25 rm_p_J9_floorMod_f86c9 (25, [(4, (1, l4))], [], s) (fun r : im_Re => ∃ z, r.1 = some (1, z) ∧ (jI r.2 ∧ lR z ∧ Q z r.2)) := by
    intro N25 hN25 l4 l4r s hv hW
    unfold C_J9_floorMod_f86c9_25 at hW
    refine pq_l (pc' := 27) rfl rfl rfl rfl rfl ?_
    exact pq_lret rfl ⟨_, rfl, hv, l4r, hW⟩
  unfold C_J9_floorMod_f86c9 at hW
  refine pq_l (pc' := 1) rfl rfl rfl rfl rfl ?_
  refine pq_l (pc' := 2) rfl rfl rfl rfl rfl ?_
  refine pq_lrem (pc' := 3) rfl rfl ?_
  refine pq_s2 (pc' := 5) rfl rfl rfl rfl rfl ?_
  refine pq_l (pc' := 6) rfl rfl rfl rfl rfl ?_
  refine pq_l (pc' := 7) rfl rfl rfl rfl rfl ?_
  refine pq_lxor (pc' := 8) rfl rfl ?_
  refine pq_k (pc' := 9) (v := (1, 0)) rfl rfl rfl (fun _ => rfl) ?_
  refine pq_lcmp (pc' := 10) rfl rfl (xorJ_r _ _) (⟨by decide, by decide⟩ : lR 0) (fun z1 z1c => ?_)
  refine pq_z_ge (pt := 25) (pc' := 13) rfl rfl rfl (fun c2 => ?_) (fun c2 => ?_)
  · have c2 : 0 ≤ (xorJ l0 l2) := by omega
    have hW := hW.1 c2
    refine pq_w [(4, (1, (remJ l0 l2)))] ⟨rfl, trivial⟩ ?_
    exact J25 N (by omega) (remJ l0 l2) (remJ_r _ _) s hv hW
  · have c2 : ¬ (0 ≤ (xorJ l0 l2)) := by omega
    have hW := hW.2 c2
    refine pq_l (pc' := 15) rfl rfl rfl rfl rfl ?_
    refine pq_k (pc' := 16) (v := (1, 0)) rfl rfl rfl (fun _ => rfl) ?_
    refine pq_lcmp (pc' := 17) rfl rfl (remJ_r _ _) (⟨by decide, by decide⟩ : lR 0) (fun z3 z3c => ?_)
    refine pq_z_eq (pt := 25) (pc' := 20) rfl rfl rfl (fun c4 => ?_) (fun c4 => ?_)
    · have c4 : (remJ l0 l2) = 0 := by omega
      have hW := hW.1 c4
      refine pq_w [(4, (1, (remJ l0 l2)))] ⟨rfl, trivial⟩ ?_
      exact J25 N (by omega) (remJ l0 l2) (remJ_r _ _) s hv hW
    · have c4 : ¬ ((remJ l0 l2) = 0) := by omega
      have hW := hW.2 c4
      refine pq_l (pc' := 22) rfl rfl rfl rfl rfl ?_
      refine pq_l (pc' := 23) rfl rfl rfl rfl rfl ?_
      refine pq_ladd (pc' := 24) rfl rfl ?_
      exact pq_lret rfl ⟨_, rfl, hv, (w64_r _), hW⟩
def C_eliminate2_91 (K8 : Int × im_S → Prop) (l0 : Nat) (l2 : Nat) (l3 : Int) (l4 : Int) (l6 : Int) (l8 : Int) (s : im_S) (Q : im_S → Prop) : Prop := (K8 ((w32 (l8 + (-1))), s))
def C_eliminate2_29 (K8 : Int × im_S → Prop) (K29 : Int × im_S → Prop) (l0 : Nat) (l2 : Nat) (l3 : Int) (l4 : Int) (l6 : Int) (l8 : Int) (l9 : Int) (l11 : Int) (l12 : Int) (s : im_S) (Q : im_S → Prop) : Prop := ((l8 < l12 → (C_eliminate2_91 K8 l0 l2 l3 l4 l6 l8 s Q)) ∧ (¬ (l8 < l12) → ((l9 = 0 → (C_eliminate2_91 K8 l0 l2 l3 l4 l6 l8 s Q)) ∧ (¬ (l9 = 0) → (caJ s l0 l12 → (∀ v206 : Int, v206 = (if l12 < l11 then (w64 ((cga s l0 l12) * l6)) else (w64 ((w64 ((cga s l0 l12) * l6)) - (w64 (l9 * (cga s l2 (w32 (l12 - l11)))))))) → (C_J9_floorMod_f86c9 v206 l4 s (fun z209 s208 => ((0 ≤ l12 ∧ l12 < gln l0) → ∀ s210, s210 = cpa s208 l0 l12 z209 → (K29 ((w32 (l12 + 1)), s210)))))))))))
def C_eliminate2_8 (K8 : Int × im_S → Prop) (l0 : Nat) (l2 : Nat) (l3 : Int) (l4 : Int) (l6 : Int) (l8 : Int) (s : im_S) (Q : im_S → Prop) : Prop := ((l8 < l3 → (Q s)) ∧ (¬ (l8 < l3) → (caJ s l0 l8 → (ploop (fun (K : Int × im_S → Prop) (a : Int × im_S) => C_eliminate2_29 K8 K l0 l2 l3 l4 l6 l8 (cga s l0 l8) (w32 (l8 - l3)) a.1 a.2 Q) (0, s)))))
def C_eliminate2 (l0 : Nat) (l1 : Int) (l2 : Nat) (l3 : Int) (l4 : Int) (s : im_S) (Q : im_S → Prop) : Prop := (caJ s l2 l3 → (ploop (fun (K : Int × im_S → Prop) (a : Int × im_S) => C_eliminate2_8 K l0 l2 l3 l4 (cga s l2 l3) a.1 a.2 Q) (l1, s)))
set_option maxRecDepth 16384 in
theorem c_eliminate2 (L : Nat) (ys : Nat → Int32) (d : Nat) (s : im_S) (hv : jI s) (l0 : Nat) (l1 : Int) (l1r : iR l1) (l2 : Nat) (l3 : Int) (l3r : iR l3) (l4 : Int) (l4r : lR l4) (Q : im_S → Prop) (hW : C_eliminate2 l0 l1 l2 l3 l4 s Q) : pcV L ys d 125 [(2, ((l0 : Nat) : Int)), (0, l1), (2, ((l2 : Nat) : Int)), (0, l3), (1, l4)] s (fun s9 => jI s9 ∧ Q s9) := by
  intro res hres
  refine pq_start (M := rm_p_X2_eliminate) (Q := (fun r : im_Re => r.1 = none ∧ (jI r.2 ∧ Q r.2))) om_X2_eliminate (fun d N => ?_) res hres
  refine pq_w [(0, (2, ((l0 : Nat) : Int))), (1, (0, l1)), (2, (2, ((l2 : Nat) : Int))), (3, (0, l3)), (4, (1, l4))] ⟨rfl, rfl, rfl, rfl, rfl, trivial⟩ ?_
  have J8 : ∀ (l0 : Nat) (l2 : Nat) (l3 : Int) (l3r : iR l3) (l4 : Int) (l4r : lR l4) (l6 : Int) (l6r : lR l6) (I8 : Int × im_S → Prop) (hB8 : ∀ a : Int × im_S, I8 a → C_eliminate2_8 I8 l0 l2 l3 l4 l6 a.1 a.2 Q), ∀ N8 : Nat, N8 ≤ N → ∀ (l8 : Int) (l8r : iR l8) (s : im_S) (hv : jI s), I8 (l8, s) → pq L ys d N8 rm_p_X2_eliminate (8, [(0, (2, ((l0 : Nat) : Int))), (2, (2, ((l2 : Nat) : Int))), (3, (0, l3)), (4, (1, l4)), (6, (1, l6)), (8, (0, l8))], [], s) (fun r : im_Re => r.1 = none ∧ (jI r.2 ∧ Q r.2)) := by
    intro l0 l2 l3 l3r l4 l4r l6 l6r I8 hB8 N8
    induction N8 using Nat.strongRecOn with
    | _ N8 ih8 =>
      intro hN8 l8 l8r s hv hI
      have hW : C_eliminate2_8 I8 l0 l2 l3 l4 l6 l8 s Q := hB8 (l8, s) hI
      have J91 : ∀ N91 : Nat, N91 ≤ N8 → ∀ (l8 : Int) (l8r : iR l8) (s : im_S) (hv : jI s), C_eliminate2_91 I8 l0 l2 l3 l4 l6 l8 s Q → pq L ys d N91 rm_p_X2_eliminate (91, [(0, (2, ((l0 : Nat) : Int))), (2, (2, ((l2 : Nat) : Int))), (3, (0, l3)), (4, (1, l4)), (6, (1, l6)), (8, (0, l8))], [], s) (fun r : im_Re => r.1 = none ∧ (jI r.2 ∧ Q r.2)) := by
        intro N91 hN91 l8 l8r s hv hW
        unfold C_eliminate2_91 at hW
        refine pq_inc (pc' := 94) rfl rfl rfl rfl ?_
        refine pq_gotoT (pc' := 8) rfl rfl (fun m1 m1l => ?_)
        refine pq_w [(0, (2, ((l0 : Nat) : Int))), (2, (2, ((l2 : Nat) : Int))), (3, (0, l3)), (4, (1, l4)), (6, (1, l6)), (8, (0, (w32 (l8 + (-1)))))] ⟨rfl, rfl, rfl, rfl, rfl, rfl, trivial⟩ ?_
        exact ih8 m1 (by omega) (by omega) (w32 (l8 + (-1))) (w32_r _) s hv hW
      have J29 : ∀ (l8 : Int) (l8r : iR l8) (l9 : Int) (l9r : lR l9) (l11 : Int) (l11r : iR l11) (I29 : Int × im_S → Prop) (hB29 : ∀ a : Int × im_S, I29 a → C_eliminate2_29 I8 I29 l0 l2 l3 l4 l6 l8 l9 l11 a.1 a.2 Q), ∀ N29 : Nat, N29 ≤ N8 → ∀ (l12 : Int) (l12r : iR l12) (s : im_S) (hv : jI s), I29 (l12, s) → pq L ys d N29 rm_p_X2_eliminate (29, [(0, (2, ((l0 : Nat) : Int))), (2, (2, ((l2 : Nat) : Int))), (3, (0, l3)), (4, (1, l4)), (6, (1, l6)), (8, (0, l8)), (9, (1, l9)), (11, (0, l11)), (12, (0, l12))], [], s) (fun r : im_Re => r.1 = none ∧ (jI r.2 ∧ Q r.2)) := by
        intro l8 l8r l9 l9r l11 l11r I29 hB29 N29
        induction N29 using Nat.strongRecOn with
        | _ N29 ih29 =>
          intro hN29 l12 l12r s hv hI
          have hW : C_eliminate2_29 I8 I29 l0 l2 l3 l4 l6 l8 l9 l11 l12 s Q := hB29 (l12, s) hI
          unfold C_eliminate2_29 at hW
          refine pq_l (pc' := 31) rfl rfl rfl rfl rfl ?_
          refine pq_l (pc' := 33) rfl rfl rfl rfl rfl ?_
          refine pq_c_gt (pt := 91) (pc' := 36) rfl rfl rfl (fun c2 => ?_) (fun c2 => ?_)
          · have hW := hW.1 c2
            refine pq_w [(0, (2, ((l0 : Nat) : Int))), (2, (2, ((l2 : Nat) : Int))), (3, (0, l3)), (4, (1, l4)), (6, (1, l6)), (8, (0, l8))] ⟨rfl, rfl, rfl, rfl, rfl, rfl, trivial⟩ ?_
            exact J91 N29 (by omega) l8 l8r s hv hW
          · have hW := hW.2 c2
            refine pq_l (pc' := 38) rfl rfl rfl rfl rfl ?_
            refine pq_k (pc' := 39) (v := (1, 0)) rfl rfl rfl (fun _ => rfl) ?_
            refine pq_lcmp (pc' := 40) rfl rfl l9r (⟨by decide, by decide⟩ : lR 0) (fun z3 z3c => ?_)
            refine pq_z_eq (pt := 91) (pc' := 43) rfl rfl rfl (fun c4 => ?_) (fun c4 => ?_)
            · have c4 : l9 = 0 := by omega
              have hW := hW.1 c4
              refine pq_w [(0, (2, ((l0 : Nat) : Int))), (2, (2, ((l2 : Nat) : Int))), (3, (0, l3)), (4, (1, l4)), (6, (1, l6)), (8, (0, l8))] ⟨rfl, rfl, rfl, rfl, rfl, rfl, trivial⟩ ?_
              exact J91 N29 (by omega) l8 l8r s hv hW
            · have c4 : ¬ (l9 = 0) := by omega
              have hW := hW.2 c4
              refine pq_l (pc' := 44) rfl rfl rfl rfl rfl ?_
              refine pq_l (pc' := 46) rfl rfl rfl rfl rfl ?_
              refine pq_la (pc' := 47) rfl rfl (fun r5a r5b r5 => ?_)
              have hW := hW ⟨⟨r5a, r5b⟩, r5⟩
              refine pq_l (pc' := 49) rfl rfl rfl rfl rfl ?_
              refine pq_lmul (pc' := 50) rfl rfl ?_
              refine pq_s2 (pc' := 52) rfl rfl rfl rfl rfl ?_
              refine pq_l (pc' := 54) rfl rfl rfl rfl rfl ?_
              refine pq_l (pc' := 56) rfl rfl rfl rfl rfl ?_
              have J207 : ∀ v206 : Int, lR v206 → ((C_J9_floorMod_f86c9 v206 l4 s (fun z209 s208 => ((0 ≤ l12 ∧ l12 < gln l0) → ∀ s210, s210 = cpa s208 l0 l12 z209 → (I29 ((w32 (l12 + 1)), s210)))))) → pq L ys d N29 rm_p_X2_eliminate (74, [(0, (2, ((l0 : Nat) : Int))), (2, (2, ((l2 : Nat) : Int))), (3, (0, l3)), (4, (1, l4)), (6, (1, l6)), (8, (0, l8)), (9, (1, l9)), (11, (0, l11)), (12, (0, l12)), (13, (1, v206))], [], s) (fun r : im_Re => r.1 = none ∧ (jI r.2 ∧ Q r.2)) := by
                intro v206 v206r hW
                refine pq_l (pc' := 75) rfl rfl rfl rfl rfl ?_
                refine pq_l (pc' := 77) rfl rfl rfl rfl rfl ?_
                refine pq_l (pc' := 79) rfl rfl rfl rfl rfl ?_
                refine pq_l (pc' := 81) rfl rfl rfl rfl rfl ?_
                refine pq_cSI (pc' := 84) rfl rfl rfl rfl rfl (c_J9_floorMod_f86c9 L ys d s hv v206 v206r l4 l4r _ hW) (fun z209 s208 hr => ?_)
                obtain ⟨s208v, z209r, hW⟩ := hr
                refine pq_ls (pc' := 85) rfl rfl s208v (fun s210a s210b s210 s210e s210v => ?_)
                have hW := hW ⟨s210a, s210b⟩ s210 s210e
                refine pq_inc (pc' := 88) rfl rfl rfl rfl ?_
                refine pq_gotoT (pc' := 29) rfl rfl (fun m211 m211l => ?_)
                refine pq_w [(0, (2, ((l0 : Nat) : Int))), (2, (2, ((l2 : Nat) : Int))), (3, (0, l3)), (4, (1, l4)), (6, (1, l6)), (8, (0, l8)), (9, (1, l9)), (11, (0, l11)), (12, (0, (w32 (l12 + 1))))] ⟨rfl, rfl, rfl, rfl, rfl, rfl, rfl, rfl, rfl, trivial⟩ ?_
                exact ih29 m211 (by omega) (by omega) (w32 (l12 + 1)) (w32_r _) s210 s210v hW
              refine pq_c_lt (pt := 74) (pc' := 59) rfl rfl rfl (fun c6 => ?_) (fun c6 => ?_)
              · refine pq_w [(0, (2, ((l0 : Nat) : Int))), (2, (2, ((l2 : Nat) : Int))), (3, (0, l3)), (4, (1, l4)), (6, (1, l6)), (8, (0, l8)), (9, (1, l9)), (11, (0, l11)), (12, (0, l12)), (13, (1, (w64 ((cga s l0 l12) * l6))))] ⟨rfl, rfl, rfl, rfl, rfl, rfl, rfl, rfl, rfl, rfl, trivial⟩ ?_
                exact J207 (w64 ((cga s l0 l12) * l6)) (w64_r _) (hW _ (by rw [if_pos c6]))
              · refine pq_l (pc' := 61) rfl rfl rfl rfl rfl ?_
                refine pq_l (pc' := 63) rfl rfl rfl rfl rfl ?_
                refine pq_l (pc' := 64) rfl rfl rfl rfl rfl ?_
                refine pq_l (pc' := 66) rfl rfl rfl rfl rfl ?_
                refine pq_l (pc' := 68) rfl rfl rfl rfl rfl ?_
                refine pq_sub (pc' := 69) rfl rfl ?_
                refine pq_la (pc' := 70) rfl rfl (fun r7a r7b r7 => ?_)
                refine pq_lmul (pc' := 71) rfl rfl ?_
                refine pq_lsub (pc' := 72) rfl rfl ?_
                refine pq_s2 (pc' := 74) rfl rfl rfl rfl rfl ?_
                refine pq_w [(0, (2, ((l0 : Nat) : Int))), (2, (2, ((l2 : Nat) : Int))), (3, (0, l3)), (4, (1, l4)), (6, (1, l6)), (8, (0, l8)), (9, (1, l9)), (11, (0, l11)), (12, (0, l12)), (13, (1, (w64 ((w64 ((cga s l0 l12) * l6)) - (w64 (l9 * (cga s l2 (w32 (l12 - l11)))))))))] ⟨rfl, rfl, rfl, rfl, rfl, rfl, rfl, rfl, rfl, rfl, trivial⟩ ?_
                exact J207 (w64 ((w64 ((cga s l0 l12) * l6)) - (w64 (l9 * (cga s l2 (w32 (l12 - l11))))))) (w64_r _) (hW _ (by rw [if_neg (fun z => c6 z)]))
      unfold C_eliminate2_8 at hW
      refine pq_l (pc' := 10) rfl rfl rfl rfl rfl ?_
      refine pq_l (pc' := 11) rfl rfl rfl rfl rfl ?_
      refine pq_c_lt (pt := 97) (pc' := 14) rfl rfl rfl (fun c212 => ?_) (fun c212 => ?_)
      · have hW := hW.1 c212
        exact pq_vret rfl ⟨rfl, hv, hW⟩
      · have hW := hW.2 c212
        refine pq_l (pc' := 15) rfl rfl rfl rfl rfl ?_
        refine pq_l (pc' := 17) rfl rfl rfl rfl rfl ?_
        refine pq_la (pc' := 18) rfl rfl (fun r213a r213b r213 => ?_)
        have hW := hW ⟨⟨r213a, r213b⟩, r213⟩
        refine pq_s2 (pc' := 20) rfl rfl rfl rfl rfl ?_
        refine pq_l (pc' := 22) rfl rfl rfl rfl rfl ?_
        refine pq_l (pc' := 23) rfl rfl rfl rfl rfl ?_
        refine pq_sub (pc' := 24) rfl rfl ?_
        refine pq_s (pc' := 26) rfl rfl rfl rfl rfl ?_
        refine pq_k (pc' := 27) (v := (0, 0)) rfl rfl rfl (fun _ => rfl) ?_
        refine pq_s (pc' := 29) rfl rfl rfl rfl rfl ?_
        refine pq_w [(0, (2, ((l0 : Nat) : Int))), (2, (2, ((l2 : Nat) : Int))), (3, (0, l3)), (4, (1, l4)), (6, (1, l6)), (8, (0, l8)), (9, (1, (cga s l0 l8))), (11, (0, (w32 (l8 - l3)))), (12, (0, 0))] ⟨rfl, rfl, rfl, rfl, rfl, rfl, rfl, rfl, rfl, trivial⟩ ?_
        obtain ⟨I9, hI9, hB9⟩ := hW
        exact J29 l8 l8r (cga s l0 l8) r213 (w32 (l8 - l3)) (w32_r _) I9 hB9 N8 (by omega) 0 (⟨by decide, by decide⟩ : iR 0) s hv hI9
  unfold C_eliminate2 at hW
  refine pq_l (pc' := 1) rfl rfl rfl rfl rfl ?_
  refine pq_l (pc' := 2) rfl rfl rfl rfl rfl ?_
  refine pq_la (pc' := 3) rfl rfl (fun r214a r214b r214 => ?_)
  have hW := hW ⟨⟨r214a, r214b⟩, r214⟩
  refine pq_s2 (pc' := 5) rfl rfl rfl rfl rfl ?_
  refine pq_l (pc' := 6) rfl rfl rfl rfl rfl ?_
  refine pq_s (pc' := 8) rfl rfl rfl rfl rfl ?_
  refine pq_w [(0, (2, ((l0 : Nat) : Int))), (2, (2, ((l2 : Nat) : Int))), (3, (0, l3)), (4, (1, l4)), (6, (1, (cga s l2 l3))), (8, (0, l1))] ⟨rfl, rfl, rfl, rfl, rfl, rfl, trivial⟩ ?_
  obtain ⟨I9, hI9, hB9⟩ := hW
  exact J8 l0 l2 l3 l3r l4 l4r (cga s l2 l3) r214 I9 hB9 N (by omega) l1 l1r s hv hI9
def C_inverse2_15 (K15 : Int × Int × Int × im_S → Prop) (l2 : Int) (l4 : Int) (l6 : Int) (l8 : Int) (s : im_S) (Q : Int → im_S → Prop) : Prop := ((l8 ≤ 0 → (Q l4 s)) ∧ (¬ (l8 ≤ 0) → (∀ v204 : Int, v204 = (if ¬ ((andJ l8 1) = 1) then l4 else (remJ (w64 (l4 * l6)) l2)) → (K15 (v204, (remJ (w64 (l6 * l6)) l2), (shrJ l8 1), s)))))
def C_inverse2 (l0 : Int) (l2 : Int) (s : im_S) (Q : Int → im_S → Prop) : Prop := (ploop (fun (K : Int × Int × Int × im_S → Prop) (a : Int × Int × Int × im_S) => C_inverse2_15 K l2 a.1 a.2.1 a.2.2.1 a.2.2.2 Q) (1, (remJ l0 l2), (w64 (l2 - 2)), s))
set_option maxRecDepth 16384 in
theorem c_inverse2 (L : Nat) (ys : Nat → Int32) (d : Nat) (s : im_S) (hv : jI s) (l0 : Int) (l0r : lR l0) (l2 : Int) (l2r : lR l2) (Q : Int → im_S → Prop) (hW : C_inverse2 l0 l2 s Q) : pcI L ys 1 d 129 [(1, l0), (1, l2)] s (fun z9 s9 => jI s9 ∧ lR z9 ∧ Q z9 s9) := by
  intro res hres
  refine pq_start (M := rm_p_X2_inverse) (Q := (fun r : im_Re => ∃ z, r.1 = some (1, z) ∧ (jI r.2 ∧ lR z ∧ Q z r.2))) om_X2_inverse (fun d N => ?_) res hres
  refine pq_w [(0, (1, l0)), (2, (1, l2))] ⟨rfl, rfl, trivial⟩ ?_
  have J15 : ∀ (l2 : Int) (l2r : lR l2) (I15 : Int × Int × Int × im_S → Prop) (hB15 : ∀ a : Int × Int × Int × im_S, I15 a → C_inverse2_15 I15 l2 a.1 a.2.1 a.2.2.1 a.2.2.2 Q), ∀ N15 : Nat, N15 ≤ N → ∀ (l4 : Int) (l4r : lR l4) (l6 : Int) (l6r : lR l6) (l8 : Int) (l8r : lR l8) (s : im_S) (hv : jI s), I15 (l4, l6, l8, s) → pq L ys d N15 rm_p_X2_inverse (15, [(2, (1, l2)), (4, (1, l4)), (6, (1, l6)), (8, (1, l8))], [], s) (fun r : im_Re => ∃ z, r.1 = some (1, z) ∧ (jI r.2 ∧ lR z ∧ Q z r.2)) := by
    intro l2 l2r I15 hB15 N15
    induction N15 using Nat.strongRecOn with
    | _ N15 ih15 =>
      intro hN15 l4 l4r l6 l6r l8 l8r s hv hI
      have hW : C_inverse2_15 I15 l2 l4 l6 l8 s Q := hB15 (l4, l6, l8, s) hI
      unfold C_inverse2_15 at hW
      refine pq_l (pc' := 17) rfl rfl rfl rfl rfl ?_
      refine pq_k (pc' := 18) (v := (1, 0)) rfl rfl rfl (fun _ => rfl) ?_
      refine pq_lcmp (pc' := 19) rfl rfl l8r (⟨by decide, by decide⟩ : lR 0) (fun z1 z1c => ?_)
      refine pq_z_le (pt := 58) (pc' := 22) rfl rfl rfl (fun c2 => ?_) (fun c2 => ?_)
      · have c2 : l8 ≤ 0 := by omega
        have hW := hW.1 c2
        refine pq_l (pc' := 60) rfl rfl rfl rfl rfl ?_
        exact pq_lret rfl ⟨_, rfl, hv, l4r, hW⟩
      · have c2 : ¬ (l8 ≤ 0) := by omega
        have hW := hW.2 c2
        refine pq_l (pc' := 24) rfl rfl rfl rfl rfl ?_
        refine pq_k (pc' := 25) (v := (1, 1)) rfl rfl rfl (fun _ => rfl) ?_
        refine pq_land (pc' := 26) rfl rfl ?_
        refine pq_k (pc' := 27) (v := (1, 1)) rfl rfl rfl (fun _ => rfl) ?_
        refine pq_lcmp (pc' := 28) rfl rfl (andJ_r _ _) (⟨by decide, by decide⟩ : lR 1) (fun z3 z3c => ?_)
        have J205 : ∀ v204 : Int, lR v204 → ((I15 (v204, (remJ (w64 (l6 * l6)) l2), (shrJ l8 1), s))) → pq L ys d N15 rm_p_X2_inverse (40, [(2, (1, l2)), (4, (1, v204)), (6, (1, l6)), (8, (1, l8))], [], s) (fun r : im_Re => ∃ z, r.1 = some (1, z) ∧ (jI r.2 ∧ lR z ∧ Q z r.2)) := by
          intro v204 v204r hW
          refine pq_l (pc' := 42) rfl rfl rfl rfl rfl ?_
          refine pq_l (pc' := 44) rfl rfl rfl rfl rfl ?_
          refine pq_lmul (pc' := 45) rfl rfl ?_
          refine pq_l (pc' := 46) rfl rfl rfl rfl rfl ?_
          refine pq_lrem (pc' := 47) rfl rfl ?_
          refine pq_s2 (pc' := 49) rfl rfl rfl rfl rfl ?_
          refine pq_l (pc' := 51) rfl rfl rfl rfl rfl ?_
          refine pq_k (pc' := 52) (v := (0, 1)) rfl rfl rfl (fun _ => rfl) ?_
          refine pq_lshr (pc' := 53) rfl rfl ?_
          refine pq_s2 (pc' := 55) rfl rfl rfl rfl rfl ?_
          refine pq_gotoT (pc' := 15) rfl rfl (fun m206 m206l => ?_)
          refine pq_w [(2, (1, l2)), (4, (1, v204)), (6, (1, (remJ (w64 (l6 * l6)) l2))), (8, (1, (shrJ l8 1)))] ⟨rfl, rfl, rfl, rfl, trivial⟩ ?_
          exact ih15 m206 (by omega) (by omega) v204 v204r (remJ (w64 (l6 * l6)) l2) (remJ_r _ _) (shrJ l8 1) (shrJ_r _ _) s hv hW
        refine pq_z_ne (pt := 40) (pc' := 31) rfl rfl rfl (fun c4 => ?_) (fun c4 => ?_)
        · have c4 : ¬ ((andJ l8 1) = 1) := by omega
          refine pq_w [(2, (1, l2)), (4, (1, l4)), (6, (1, l6)), (8, (1, l8))] ⟨rfl, rfl, rfl, rfl, trivial⟩ ?_
          exact J205 l4 l4r (hW _ (by rw [if_pos c4]))
        · have c4 : (andJ l8 1) = 1 := by omega
          refine pq_l (pc' := 33) rfl rfl rfl rfl rfl ?_
          refine pq_l (pc' := 35) rfl rfl rfl rfl rfl ?_
          refine pq_lmul (pc' := 36) rfl rfl ?_
          refine pq_l (pc' := 37) rfl rfl rfl rfl rfl ?_
          refine pq_lrem (pc' := 38) rfl rfl ?_
          refine pq_s2 (pc' := 40) rfl rfl rfl rfl rfl ?_
          refine pq_w [(2, (1, l2)), (4, (1, (remJ (w64 (l4 * l6)) l2))), (6, (1, l6)), (8, (1, l8))] ⟨rfl, rfl, rfl, rfl, trivial⟩ ?_
          exact J205 (remJ (w64 (l4 * l6)) l2) (remJ_r _ _) (hW _ (by rw [if_neg (by omega)]))
  unfold C_inverse2 at hW
  refine pq_k (pc' := 1) (v := (1, 1)) rfl rfl rfl (fun _ => rfl) ?_
  refine pq_s2 (pc' := 3) rfl rfl rfl rfl rfl ?_
  refine pq_l (pc' := 4) rfl rfl rfl rfl rfl ?_
  refine pq_l (pc' := 5) rfl rfl rfl rfl rfl ?_
  refine pq_lrem (pc' := 6) rfl rfl ?_
  refine pq_s2 (pc' := 8) rfl rfl rfl rfl rfl ?_
  refine pq_l (pc' := 9) rfl rfl rfl rfl rfl ?_
  refine pq_k (pc' := 12) (v := (1, 2)) rfl rfl rfl (fun _ => rfl) ?_
  refine pq_lsub (pc' := 13) rfl rfl ?_
  refine pq_s2 (pc' := 15) rfl rfl rfl rfl rfl ?_
  refine pq_w [(2, (1, l2)), (4, (1, 1)), (6, (1, (remJ l0 l2))), (8, (1, (w64 (l2 - 2))))] ⟨rfl, rfl, rfl, rfl, trivial⟩ ?_
  obtain ⟨I9, hI9, hB9⟩ := hW
  exact J15 l2 l2r I9 hB9 N (by omega) 1 (⟨by decide, by decide⟩ : lR 1) (remJ l0 l2) (remJ_r _ _) (w64 (l2 - 2)) (w64_r _) s hv hI9
def C_imageModulo2_154 (K154 : Int × im_S → Prop) (l3 : Int) (l5 : Nat) (l7 : Int) (l9 : Int) (l11 : Int) (s : im_S) (Q : Int → im_S → Prop) : Prop := ((8 < l11 → (Q l7 s)) ∧ (¬ (8 < l11) → (caJ s l5 l11 → ((0 ≤ l11 ∧ l11 < gln (crf s 247 3)) → ∀ s3, s3 = cpa s (crf s 247 3) l11 (remJ (w64 ((cga s l5 l11) * l9)) l3) → (K154 ((w32 (l11 + 1)), s3))))))
def C_imageModulo2_138 (s : im_S) (Q : Int → im_S → Prop) : Prop := (Q 0 s)
def C_imageModulo2_128 (l3 : Int) (l5 : Nat) (l7 : Int) (l8 : Int) (s : im_S) (Q : Int → im_S → Prop) : Prop := ((l8 = 0 → (C_imageModulo2_138 s Q)) ∧ (¬ (l8 = 0) → ((0 ≤ l7 → (caJ s l5 l7 → (C_inverse2 (cga s l5 l7) l3 s (fun z9 s8 => (ploop (fun (K : Int × im_S → Prop) (a : Int × im_S) => C_imageModulo2_154 K l3 l5 l7 z9 a.1 a.2 Q) (0, s8)))))) ∧ (¬ (0 ≤ l7) → (C_imageModulo2_138 s Q)))))
def C_imageModulo2_75 (K75 : Nat × Nat × Int × Int × Int × im_S → Prop) (l3 : Int) (l5 : Nat) (l6 : Nat) (l7 : Int) (l8 : Int) (l9 : Int) (s : im_S) (Q : Int → im_S → Prop) : Prop := ((24 ≤ l9 → (C_imageModulo2_128 l3 l5 l7 l8 s Q)) ∧ (¬ (24 ≤ l9) → ((l8 ≤ 0 → (C_imageModulo2_128 l3 l5 l7 l8 s Q)) ∧ (¬ (l8 ≤ 0) → (C_eliminate2 l5 l7 l6 l8 l3 s (fun s12 => (C_degreeOf2 l5 s12 (fun z15 s14 => (K75 (l6, l5, l8, z15, (w32 (l9 + 1)), s14))))))))))
def C_imageModulo2_15 (K15 : Int × im_S → Prop) (l1 : Nat) (l2 : Nat) (l3 : Int) (l5 : Nat) (l6 : Nat) (l7 : Int) (s : im_S) (Q : Int → im_S → Prop) : Prop := ((8 < l7 → (ploop (fun (K : Nat × Nat × Int × Int × Int × im_S → Prop) (a : Nat × Nat × Int × Int × Int × im_S) => C_imageModulo2_75 K l3 a.1 a.2.1 a.2.2.1 a.2.2.2.1 a.2.2.2.2.1 a.2.2.2.2.2 Q) (l5, l6, (cgf s l1 0), (cgf s l2 0), 0, s))) ∧ (¬ (8 < l7) → (caJ s (l1 + 1) l7 → (C_J9_floorMod_f86c9 (cga s (l1 + 1) l7) l3 s (fun z22 s21 => ((0 ≤ l7 ∧ l7 < gln l5) → ∀ s23, s23 = cpa s21 l5 l7 z22 → (caJ s23 (l2 + 1) l7 → (C_J9_floorMod_f86c9 (cga s23 (l2 + 1) l7) l3 s23 (fun z26 s25 => ((0 ≤ l7 ∧ l7 < gln l6) → ∀ s27, s27 = cpa s25 l6 l7 z26 → (K15 ((w32 (l7 + 1)), s27))))))))))))
def C_imageModulo2 (l1 : Nat) (l2 : Nat) (l3 : Int) (s : im_S) (Q : Int → im_S → Prop) : Prop := (ploop (fun (K : Int × im_S → Prop) (a : Int × im_S) => C_imageModulo2_15 K l1 l2 l3 248 249 a.1 a.2 Q) (0, s))
set_option maxRecDepth 16384 in
theorem c_imageModulo2 (L : Nat) (ys : Nat → Int32) (d : Nat) (s : im_S) (hv : jI s) (l1 : Nat) (l2 : Nat) (l3 : Int) (l3r : lR l3) (Q : Int → im_S → Prop) (hW : C_imageModulo2 l1 l2 l3 s Q) : pcI L ys 0 d 127 [(2, ((247 : Nat) : Int)), (2, ((l1 : Nat) : Int)), (2, ((l2 : Nat) : Int)), (1, l3)] s (fun z9 s9 => jI s9 ∧ iR z9 ∧ Q z9 s9) := by
  intro res hres
  refine pq_start (M := rm_p_X2_imageModulo) (Q := (fun r : im_Re => ∃ z, r.1 = some (0, z) ∧ (jI r.2 ∧ iR z ∧ Q z r.2))) om_X2_imageModulo (fun d N => ?_) res hres
  refine pq_w [(0, (2, ((247 : Nat) : Int))), (1, (2, ((l1 : Nat) : Int))), (2, (2, ((l2 : Nat) : Int))), (3, (1, l3))] ⟨rfl, rfl, rfl, rfl, trivial⟩ ?_
  have J154 : ∀ (l3 : Int) (l3r : lR l3) (l5 : Nat) (l7 : Int) (l7r : iR l7) (l9 : Int) (l9r : lR l9) (I154 : Int × im_S → Prop) (hB154 : ∀ a : Int × im_S, I154 a → C_imageModulo2_154 I154 l3 l5 l7 l9 a.1 a.2 Q), ∀ N154 : Nat, N154 ≤ N → ∀ (l11 : Int) (l11r : iR l11) (s : im_S) (hv : jI s), I154 (l11, s) → pq L ys d N154 rm_p_X2_imageModulo (154, [(0, (2, ((247 : Nat) : Int))), (3, (1, l3)), (5, (2, ((l5 : Nat) : Int))), (7, (0, l7)), (9, (1, l9)), (11, (0, l11))], [], s) (fun r : im_Re => ∃ z, r.1 = some (0, z) ∧ (jI r.2 ∧ iR z ∧ Q z r.2)) := by
    intro l3 l3r l5 l7 l7r l9 l9r I154 hB154 N154
    induction N154 using Nat.strongRecOn with
    | _ N154 ih154 =>
      intro hN154 l11 l11r s hv hI
      have hW : C_imageModulo2_154 I154 l3 l5 l7 l9 l11 s Q := hB154 (l11, s) hI
      unfold C_imageModulo2_154 at hW
      refine pq_l (pc' := 156) rfl rfl rfl rfl rfl ?_
      refine pq_k (pc' := 158) (v := (0, 8)) rfl rfl rfl (fun _ => rfl) ?_
      refine pq_c_gt (pt := 184) (pc' := 161) rfl rfl rfl (fun c1 => ?_) (fun c1 => ?_)
      · have hW := hW.1 c1
        refine pq_l (pc' := 186) rfl rfl rfl rfl rfl ?_
        exact pq_iret rfl ⟨_, rfl, hv, l7r, hW⟩
      · have hW := hW.2 c1
        refine pq_l (pc' := 162) rfl rfl rfl rfl rfl ?_
        refine pq_gm (pc' := 165) rfl rfl rfl rfl (jI_d0 hv).1 ?_
        refine pq_l (pc' := 167) rfl rfl rfl rfl rfl ?_
        refine pq_l (pc' := 169) rfl rfl rfl rfl rfl ?_
        refine pq_l (pc' := 171) rfl rfl rfl rfl rfl ?_
        refine pq_la (pc' := 172) rfl rfl (fun r2a r2b r2 => ?_)
        have hW := hW ⟨⟨r2a, r2b⟩, r2⟩
        refine pq_l (pc' := 174) rfl rfl rfl rfl rfl ?_
        refine pq_lmul (pc' := 175) rfl rfl ?_
        refine pq_l (pc' := 176) rfl rfl rfl rfl rfl ?_
        refine pq_lrem (pc' := 177) rfl rfl ?_
        refine pq_ls (pc' := 178) rfl rfl hv (fun s3a s3b s3 s3e s3v => ?_)
        have hW := hW ⟨s3a, s3b⟩ s3 s3e
        refine pq_inc (pc' := 181) rfl rfl rfl rfl ?_
        refine pq_gotoT (pc' := 154) rfl rfl (fun m4 m4l => ?_)
        refine pq_w [(0, (2, ((247 : Nat) : Int))), (3, (1, l3)), (5, (2, ((l5 : Nat) : Int))), (7, (0, l7)), (9, (1, l9)), (11, (0, (w32 (l11 + 1))))] ⟨rfl, rfl, rfl, rfl, rfl, rfl, trivial⟩ ?_
        exact ih154 m4 (by omega) (by omega) (w32 (l11 + 1)) (w32_r _) s3 s3v hW
  have J138 : ∀ N138 : Nat, N138 ≤ N → ∀ (s : im_S) (hv : jI s), C_imageModulo2_138 s Q → pq L ys d N138 rm_p_X2_imageModulo (138, [], [], s) (fun r : im_Re => ∃ z, r.1 = some (0, z) ∧ (jI r.2 ∧ iR z ∧ Q z r.2)) := by
    intro N138 hN138 s hv hW
    unfold C_imageModulo2_138 at hW
    refine pq_k (pc' := 139) (v := (0, 0)) rfl rfl rfl (fun _ => rfl) ?_
    exact pq_iret rfl ⟨_, rfl, hv, (⟨by decide, by decide⟩ : iR 0), hW⟩
  have J128 : ∀ N128 : Nat, N128 ≤ N → ∀ (l3 : Int) (l3r : lR l3) (l5 : Nat) (l7 : Int) (l7r : iR l7) (l8 : Int) (l8r : iR l8) (s : im_S) (hv : jI s), C_imageModulo2_128 l3 l5 l7 l8 s Q → pq L ys d N128 rm_p_X2_imageModulo (128, [(0, (2, ((247 : Nat) : Int))), (3, (1, l3)), (5, (2, ((l5 : Nat) : Int))), (7, (0, l7)), (8, (0, l8))], [], s) (fun r : im_Re => ∃ z, r.1 = some (0, z) ∧ (jI r.2 ∧ iR z ∧ Q z r.2)) := by
    intro N128 hN128 l3 l3r l5 l7 l7r l8 l8r s hv hW
    unfold C_imageModulo2_128 at hW
    refine pq_l (pc' := 130) rfl rfl rfl rfl rfl ?_
    refine pq_z_eq (pt := 138) (pc' := 133) rfl rfl rfl (fun c5 => ?_) (fun c5 => ?_)
    · have hW := hW.1 c5
      refine pq_w [] trivial ?_
      exact J138 N128 (by omega) s hv hW
    · have hW := hW.2 c5
      refine pq_l (pc' := 135) rfl rfl rfl rfl rfl ?_
      refine pq_z_ge (pt := 140) (pc' := 138) rfl rfl rfl (fun c6 => ?_) (fun c6 => ?_)
      · have hW := hW.1 c6
        refine pq_l (pc' := 142) rfl rfl rfl rfl rfl ?_
        refine pq_l (pc' := 144) rfl rfl rfl rfl rfl ?_
        refine pq_la (pc' := 145) rfl rfl (fun r7a r7b r7 => ?_)
        have hW := hW ⟨⟨r7a, r7b⟩, r7⟩
        refine pq_l (pc' := 146) rfl rfl rfl rfl rfl ?_
        refine pq_cSI (pc' := 149) rfl rfl rfl rfl rfl (c_inverse2 L ys d s hv (cga s l5 l7) r7 l3 l3r _ hW) (fun z9 s8 hr => ?_)
        obtain ⟨s8v, z9r, hW⟩ := hr
        refine pq_s2 (pc' := 151) rfl rfl rfl rfl rfl ?_
        refine pq_k (pc' := 152) (v := (0, 0)) rfl rfl rfl (fun _ => rfl) ?_
        refine pq_s (pc' := 154) rfl rfl rfl rfl rfl ?_
        refine pq_w [(0, (2, ((247 : Nat) : Int))), (3, (1, l3)), (5, (2, ((l5 : Nat) : Int))), (7, (0, l7)), (9, (1, z9)), (11, (0, 0))] ⟨rfl, rfl, rfl, rfl, rfl, rfl, trivial⟩ ?_
        obtain ⟨I9, hI9, hB9⟩ := hW
        exact J154 l3 l3r l5 l7 l7r z9 z9r I9 hB9 N128 (by omega) 0 (⟨by decide, by decide⟩ : iR 0) s8 s8v hI9
      · have hW := hW.2 c6
        refine pq_w [] trivial ?_
        exact J138 N128 (by omega) s hv hW
  have J75 : ∀ (l3 : Int) (l3r : lR l3) (I75 : Nat × Nat × Int × Int × Int × im_S → Prop) (hB75 : ∀ a : Nat × Nat × Int × Int × Int × im_S, I75 a → C_imageModulo2_75 I75 l3 a.1 a.2.1 a.2.2.1 a.2.2.2.1 a.2.2.2.2.1 a.2.2.2.2.2 Q), ∀ N75 : Nat, N75 ≤ N → ∀ (l5 : Nat) (l6 : Nat) (l7 : Int) (l7r : iR l7) (l8 : Int) (l8r : iR l8) (l9 : Int) (l9r : iR l9) (s : im_S) (hv : jI s), I75 (l5, l6, l7, l8, l9, s) → pq L ys d N75 rm_p_X2_imageModulo (75, [(0, (2, ((247 : Nat) : Int))), (3, (1, l3)), (5, (2, ((l5 : Nat) : Int))), (6, (2, ((l6 : Nat) : Int))), (7, (0, l7)), (8, (0, l8)), (9, (0, l9))], [], s) (fun r : im_Re => ∃ z, r.1 = some (0, z) ∧ (jI r.2 ∧ iR z ∧ Q z r.2)) := by
    intro l3 l3r I75 hB75 N75
    induction N75 using Nat.strongRecOn with
    | _ N75 ih75 =>
      intro hN75 l5 l6 l7 l7r l8 l8r l9 l9r s hv hI
      have hW : C_imageModulo2_75 I75 l3 l5 l6 l7 l8 l9 s Q := hB75 (l5, l6, l7, l8, l9, s) hI
      unfold C_imageModulo2_75 at hW
      refine pq_l (pc' := 77) rfl rfl rfl rfl rfl ?_
      refine pq_k (pc' := 79) (v := (0, 24)) rfl rfl rfl (fun _ => rfl) ?_
      refine pq_c_ge (pt := 128) (pc' := 82) rfl rfl rfl (fun c10 => ?_) (fun c10 => ?_)
      · have hW := hW.1 c10
        refine pq_w [(0, (2, ((247 : Nat) : Int))), (3, (1, l3)), (5, (2, ((l5 : Nat) : Int))), (7, (0, l7)), (8, (0, l8))] ⟨rfl, rfl, rfl, rfl, rfl, trivial⟩ ?_
        exact J128 N75 (by omega) l3 l3r l5 l7 l7r l8 l8r s hv hW
      · have hW := hW.2 c10
        refine pq_l (pc' := 84) rfl rfl rfl rfl rfl ?_
        refine pq_z_le (pt := 128) (pc' := 87) rfl rfl rfl (fun c11 => ?_) (fun c11 => ?_)
        · have hW := hW.1 c11
          refine pq_w [(0, (2, ((247 : Nat) : Int))), (3, (1, l3)), (5, (2, ((l5 : Nat) : Int))), (7, (0, l7)), (8, (0, l8))] ⟨rfl, rfl, rfl, rfl, rfl, trivial⟩ ?_
          exact J128 N75 (by omega) l3 l3r l5 l7 l7r l8 l8r s hv hW
        · have hW := hW.2 c11
          refine pq_l (pc' := 89) rfl rfl rfl rfl rfl ?_
          refine pq_l (pc' := 91) rfl rfl rfl rfl rfl ?_
          refine pq_l (pc' := 93) rfl rfl rfl rfl rfl ?_
          refine pq_l (pc' := 95) rfl rfl rfl rfl rfl ?_
          refine pq_l (pc' := 96) rfl rfl rfl rfl rfl ?_
          refine pq_cSV (pc' := 99) rfl rfl rfl rfl rfl (c_eliminate2 L ys d s hv l5 l7 l7r l6 l8 l8r l3 l3r _ hW) (fun s12 hr => ?_)
          obtain ⟨s12v, hW⟩ := hr
          refine pq_l (pc' := 101) rfl rfl rfl rfl rfl ?_
          refine pq_s (pc' := 103) rfl rfl rfl rfl rfl ?_
          refine pq_l (pc' := 105) rfl rfl rfl rfl rfl ?_
          refine pq_s (pc' := 107) rfl rfl rfl rfl rfl ?_
          refine pq_l (pc' := 109) rfl rfl rfl rfl rfl ?_
          refine pq_s (pc' := 111) rfl rfl rfl rfl rfl ?_
          refine pq_l (pc' := 113) rfl rfl rfl rfl rfl ?_
          refine pq_s (pc' := 115) rfl rfl rfl rfl rfl ?_
          refine pq_l (pc' := 117) rfl rfl rfl rfl rfl ?_
          refine pq_cSI (pc' := 120) rfl rfl rfl rfl rfl (c_degreeOf2 L ys d s12 s12v l5 _ hW) (fun z15 s14 hr => ?_)
          obtain ⟨s14v, z15r, hW⟩ := hr
          refine pq_s (pc' := 122) rfl rfl rfl rfl rfl ?_
          refine pq_inc (pc' := 125) rfl rfl rfl rfl ?_
          refine pq_gotoT (pc' := 75) rfl rfl (fun m16 m16l => ?_)
          refine pq_w [(0, (2, ((247 : Nat) : Int))), (3, (1, l3)), (5, (2, ((l6 : Nat) : Int))), (6, (2, ((l5 : Nat) : Int))), (7, (0, l8)), (8, (0, z15)), (9, (0, (w32 (l9 + 1))))] ⟨rfl, rfl, rfl, rfl, rfl, rfl, rfl, trivial⟩ ?_
          exact ih75 m16 (by omega) (by omega) l6 l5 l8 l8r z15 z15r (w32 (l9 + 1)) (w32_r _) s14 s14v hW
  have J15 : ∀ (l1 : Nat) (l2 : Nat) (l3 : Int) (l3r : lR l3) (l5 : Nat) (l6 : Nat) (I15 : Int × im_S → Prop) (hB15 : ∀ a : Int × im_S, I15 a → C_imageModulo2_15 I15 l1 l2 l3 l5 l6 a.1 a.2 Q), ∀ N15 : Nat, N15 ≤ N → ∀ (l7 : Int) (l7r : iR l7) (s : im_S) (hv : jI s), I15 (l7, s) → pq L ys d N15 rm_p_X2_imageModulo (15, [(0, (2, ((247 : Nat) : Int))), (1, (2, ((l1 : Nat) : Int))), (2, (2, ((l2 : Nat) : Int))), (3, (1, l3)), (5, (2, ((l5 : Nat) : Int))), (6, (2, ((l6 : Nat) : Int))), (7, (0, l7))], [], s) (fun r : im_Re => ∃ z, r.1 = some (0, z) ∧ (jI r.2 ∧ iR z ∧ Q z r.2)) := by
    intro l1 l2 l3 l3r l5 l6 I15 hB15 N15
    induction N15 using Nat.strongRecOn with
    | _ N15 ih15 =>
      intro hN15 l7 l7r s hv hI
      have hW : C_imageModulo2_15 I15 l1 l2 l3 l5 l6 l7 s Q := hB15 (l7, s) hI
      unfold C_imageModulo2_15 at hW
      refine pq_l (pc' := 17) rfl rfl rfl rfl rfl ?_
      refine pq_k (pc' := 19) (v := (0, 8)) rfl rfl rfl (fun _ => rfl) ?_
      refine pq_c_gt (pt := 60) (pc' := 22) rfl rfl rfl (fun c17 => ?_) (fun c17 => ?_)
      · have hW := hW.1 c17
        refine pq_l (pc' := 61) rfl rfl rfl rfl rfl ?_
        refine pq_gi (pc' := 64) rfl rfl rfl rfl rfl (fun r18 => ?_)
        refine pq_s (pc' := 66) rfl rfl rfl rfl rfl ?_
        refine pq_l (pc' := 67) rfl rfl rfl rfl rfl ?_
        refine pq_gi (pc' := 70) rfl rfl rfl rfl rfl (fun r19 => ?_)
        refine pq_s (pc' := 72) rfl rfl rfl rfl rfl ?_
        refine pq_k (pc' := 73) (v := (0, 0)) rfl rfl rfl (fun _ => rfl) ?_
        refine pq_s (pc' := 75) rfl rfl rfl rfl rfl ?_
        refine pq_w [(0, (2, ((247 : Nat) : Int))), (3, (1, l3)), (5, (2, ((l5 : Nat) : Int))), (6, (2, ((l6 : Nat) : Int))), (7, (0, (cgf s l1 0))), (8, (0, (cgf s l2 0))), (9, (0, 0))] ⟨rfl, rfl, rfl, rfl, rfl, rfl, rfl, trivial⟩ ?_
        obtain ⟨I9, hI9, hB9⟩ := hW
        exact J75 l3 l3r I9 hB9 N15 (by omega) l5 l6 (cgf s l1 0) r18 (cgf s l2 0) r19 0 (⟨by decide, by decide⟩ : iR 0) s hv hI9
      · have hW := hW.2 c17
        refine pq_l (pc' := 24) rfl rfl rfl rfl rfl ?_
        refine pq_l (pc' := 26) rfl rfl rfl rfl rfl ?_
        refine pq_l (pc' := 27) rfl rfl rfl rfl rfl ?_
        refine pq_gr (pc' := 30) (c := (l1 + 1)) (v := 0) rfl rfl rfl rfl rfl rfl hv ?_
        refine pq_l (pc' := 32) rfl rfl rfl rfl rfl ?_
        refine pq_la (pc' := 33) rfl rfl (fun r20a r20b r20 => ?_)
        have hW := hW ⟨⟨r20a, r20b⟩, r20⟩
        refine pq_l (pc' := 34) rfl rfl rfl rfl rfl ?_
        refine pq_cSI (pc' := 37) rfl rfl rfl rfl rfl (c_J9_floorMod_f86c9 L ys d s hv (cga s (l1 + 1) l7) r20 l3 l3r _ hW) (fun z22 s21 hr => ?_)
        obtain ⟨s21v, z22r, hW⟩ := hr
        refine pq_ls (pc' := 38) rfl rfl s21v (fun s23a s23b s23 s23e s23v => ?_)
        have hW := hW ⟨s23a, s23b⟩ s23 s23e
        refine pq_l (pc' := 40) rfl rfl rfl rfl rfl ?_
        refine pq_l (pc' := 42) rfl rfl rfl rfl rfl ?_
        refine pq_l (pc' := 43) rfl rfl rfl rfl rfl ?_
        refine pq_gr (pc' := 46) (c := (l2 + 1)) (v := 0) rfl rfl rfl rfl rfl rfl s23v ?_
        refine pq_l (pc' := 48) rfl rfl rfl rfl rfl ?_
        refine pq_la (pc' := 49) rfl rfl (fun r24a r24b r24 => ?_)
        have hW := hW ⟨⟨r24a, r24b⟩, r24⟩
        refine pq_l (pc' := 50) rfl rfl rfl rfl rfl ?_
        refine pq_cSI (pc' := 53) rfl rfl rfl rfl rfl (c_J9_floorMod_f86c9 L ys d s23 s23v (cga s23 (l2 + 1) l7) r24 l3 l3r _ hW) (fun z26 s25 hr => ?_)
        obtain ⟨s25v, z26r, hW⟩ := hr
        refine pq_ls (pc' := 54) rfl rfl s25v (fun s27a s27b s27 s27e s27v => ?_)
        have hW := hW ⟨s27a, s27b⟩ s27 s27e
        refine pq_inc (pc' := 57) rfl rfl rfl rfl ?_
        refine pq_gotoT (pc' := 15) rfl rfl (fun m28 m28l => ?_)
        refine pq_w [(0, (2, ((247 : Nat) : Int))), (1, (2, ((l1 : Nat) : Int))), (2, (2, ((l2 : Nat) : Int))), (3, (1, l3)), (5, (2, ((l5 : Nat) : Int))), (6, (2, ((l6 : Nat) : Int))), (7, (0, (w32 (l7 + 1))))] ⟨rfl, rfl, rfl, rfl, rfl, rfl, rfl, trivial⟩ ?_
        exact ih15 m28 (by omega) (by omega) (w32 (l7 + 1)) (w32_r _) s27 s27v hW
  unfold C_imageModulo2 at hW
  refine pq_l (pc' := 1) rfl rfl rfl rfl rfl ?_
  refine pq_gr (pc' := 4) (c := 248) (v := 248) rfl rfl rfl rfl rfl rfl hv ?_
  refine pq_s (pc' := 6) rfl rfl rfl rfl rfl ?_
  refine pq_l (pc' := 7) rfl rfl rfl rfl rfl ?_
  refine pq_gr (pc' := 10) (c := 249) (v := 249) rfl rfl rfl rfl rfl rfl hv ?_
  refine pq_s (pc' := 12) rfl rfl rfl rfl rfl ?_
  refine pq_k (pc' := 13) (v := (0, 0)) rfl rfl rfl (fun _ => rfl) ?_
  refine pq_s (pc' := 15) rfl rfl rfl rfl rfl ?_
  refine pq_w [(0, (2, ((247 : Nat) : Int))), (1, (2, ((l1 : Nat) : Int))), (2, (2, ((l2 : Nat) : Int))), (3, (1, l3)), (5, (2, ((248 : Nat) : Int))), (6, (2, ((249 : Nat) : Int))), (7, (0, 0))] ⟨rfl, rfl, rfl, rfl, rfl, rfl, rfl, trivial⟩ ?_
  obtain ⟨I9, hI9, hB9⟩ := hW
  exact J15 l1 l2 l3 l3r 248 249 I9 hB9 N (by omega) 0 (⟨by decide, by decide⟩ : iR 0) s hv hI9
def C_rebuild2_27 (K27 : Int × im_S → Prop) (l1 : Int) (l3 : Int) (l4 : Int) (l6 : Int) (l8 : Int) (l10 : Int) (l12 : Int) (s : im_S) (Q : im_S → Prop) : Prop := ((l3 < l12 → (C_measure6 253 s (fun s2 => (C_makePrimitive6 253 s2 (fun s4 => (Q s4)))))) ∧ (¬ (l3 < l12) → (caJ s (crf s 247 4) l12 → (caJ s (crf s 247 3) l12 → (C_J9_floorMod_f86c9 (w64 ((remJ (w64 ((remJ l1 l6) * (cga s (crf s 247 3) l12))) l6) - (remJ (w64 ((remJ l1 l4) * (cga s (crf s 247 4) l12))) l4))) l6 s (fun z9 s8 => (∀ v211 : Int, v211 = (if (w64 ((remJ (w64 ((remJ l1 l4) * (cga s (crf s 247 4) l12))) l4) + (w64 (l4 * (remJ (w64 (z9 * l8)) l6))))) ≤ (divJ l10 2) then (w64 ((remJ (w64 ((remJ l1 l4) * (cga s (crf s 247 4) l12))) l4) + (w64 (l4 * (remJ (w64 (z9 * l8)) l6))))) else (w64 ((w64 ((remJ (w64 ((remJ l1 l4) * (cga s (crf s 247 4) l12))) l4) + (w64 (l4 * (remJ (w64 (z9 * l8)) l6))))) - l10))) → ((0 ≤ l12 ∧ l12 < gln (253 + 1)) → ∀ s213, s213 = cpa s8 (253 + 1) l12 v211 → (K27 ((w32 (l12 + 1)), s213))))))))))
def C_rebuild2 (l1 : Int) (l3 : Int) (l4 : Int) (l6 : Int) (s : im_S) (Q : im_S → Prop) : Prop := (C_inverse2 l4 l6 s (fun z216 s215 => (C_setConstant6 253 0 s215 (fun s217 => (ploop (fun (K : Int × im_S → Prop) (a : Int × im_S) => C_rebuild2_27 K l1 l3 l4 l6 z216 (w64 (l4 * l6)) a.1 a.2 Q) (0, s217))))))
set_option maxRecDepth 16384 in
theorem c_rebuild2 (L : Nat) (ys : Nat → Int32) (d : Nat) (s : im_S) (hv : jI s) (l1 : Int) (l1r : lR l1) (l3 : Int) (l3r : iR l3) (l4 : Int) (l4r : lR l4) (l6 : Int) (l6r : lR l6) (Q : im_S → Prop) (hW : C_rebuild2 l1 l3 l4 l6 s Q) : pcV L ys d 130 [(2, ((247 : Nat) : Int)), (1, l1), (0, l3), (1, l4), (1, l6)] s (fun s9 => jI s9 ∧ Q s9) := by
  intro res hres
  refine pq_start (M := rm_p_X2_rebuild) (Q := (fun r : im_Re => r.1 = none ∧ (jI r.2 ∧ Q r.2))) om_X2_rebuild (fun d N => ?_) res hres
  refine pq_w [(0, (2, ((247 : Nat) : Int))), (1, (1, l1)), (3, (0, l3)), (4, (1, l4)), (6, (1, l6))] ⟨rfl, rfl, rfl, rfl, rfl, trivial⟩ ?_
  have J27 : ∀ (l1 : Int) (l1r : lR l1) (l3 : Int) (l3r : iR l3) (l4 : Int) (l4r : lR l4) (l6 : Int) (l6r : lR l6) (l8 : Int) (l8r : lR l8) (l10 : Int) (l10r : lR l10) (I27 : Int × im_S → Prop) (hB27 : ∀ a : Int × im_S, I27 a → C_rebuild2_27 I27 l1 l3 l4 l6 l8 l10 a.1 a.2 Q), ∀ N27 : Nat, N27 ≤ N → ∀ (l12 : Int) (l12r : iR l12) (s : im_S) (hv : jI s), I27 (l12, s) → pq L ys d N27 rm_p_X2_rebuild (27, [(0, (2, ((247 : Nat) : Int))), (1, (1, l1)), (3, (0, l3)), (4, (1, l4)), (6, (1, l6)), (8, (1, l8)), (10, (1, l10)), (12, (0, l12))], [], s) (fun r : im_Re => r.1 = none ∧ (jI r.2 ∧ Q r.2)) := by
    intro l1 l1r l3 l3r l4 l4r l6 l6r l8 l8r l10 l10r I27 hB27 N27
    induction N27 using Nat.strongRecOn with
    | _ N27 ih27 =>
      intro hN27 l12 l12r s hv hI
      have hW : C_rebuild2_27 I27 l1 l3 l4 l6 l8 l10 l12 s Q := hB27 (l12, s) hI
      unfold C_rebuild2_27 at hW
      refine pq_l (pc' := 29) rfl rfl rfl rfl rfl ?_
      refine pq_l (pc' := 30) rfl rfl rfl rfl rfl ?_
      refine pq_c_gt (pt := 129) (pc' := 33) rfl rfl rfl (fun c1 => ?_) (fun c1 => ?_)
      · have hW := hW.1 c1
        refine pq_l (pc' := 130) rfl rfl rfl rfl rfl ?_
        refine pq_gr (pc' := 133) (c := 253) (v := 253) rfl rfl rfl rfl rfl rfl hv ?_
        refine pq_cVV (pc' := 136) rfl rfl rfl rfl rfl (c_measure6 L ys d s hv 253 _ hW) (fun s2 hr => ?_)
        obtain ⟨s2v, hW⟩ := hr
        refine pq_l (pc' := 137) rfl rfl rfl rfl rfl ?_
        refine pq_gr (pc' := 140) (c := 253) (v := 253) rfl rfl rfl rfl rfl rfl s2v ?_
        refine pq_cVV (pc' := 143) rfl rfl rfl rfl rfl (c_makePrimitive6 L ys d s2 s2v 253 _ hW) (fun s4 hr => ?_)
        obtain ⟨s4v, hW⟩ := hr
        exact pq_vret rfl ⟨rfl, s4v, hW⟩
      · have hW := hW.2 c1
        refine pq_l (pc' := 34) rfl rfl rfl rfl rfl ?_
        refine pq_l (pc' := 36) rfl rfl rfl rfl rfl ?_
        refine pq_lrem (pc' := 37) rfl rfl ?_
        refine pq_l (pc' := 38) rfl rfl rfl rfl rfl ?_
        refine pq_gm (pc' := 41) rfl rfl rfl rfl (jI_d0 hv).2 ?_
        refine pq_l (pc' := 43) rfl rfl rfl rfl rfl ?_
        refine pq_la (pc' := 44) rfl rfl (fun r6a r6b r6 => ?_)
        have hW := hW ⟨⟨r6a, r6b⟩, r6⟩
        refine pq_lmul (pc' := 45) rfl rfl ?_
        refine pq_l (pc' := 47) rfl rfl rfl rfl rfl ?_
        refine pq_lrem (pc' := 48) rfl rfl ?_
        refine pq_s2 (pc' := 50) rfl rfl rfl rfl rfl ?_
        refine pq_l (pc' := 51) rfl rfl rfl rfl rfl ?_
        refine pq_l (pc' := 53) rfl rfl rfl rfl rfl ?_
        refine pq_lrem (pc' := 54) rfl rfl ?_
        refine pq_l (pc' := 55) rfl rfl rfl rfl rfl ?_
        refine pq_gm (pc' := 58) rfl rfl rfl rfl (jI_d0 hv).1 ?_
        refine pq_l (pc' := 60) rfl rfl rfl rfl rfl ?_
        refine pq_la (pc' := 61) rfl rfl (fun r7a r7b r7 => ?_)
        have hW := hW ⟨⟨r7a, r7b⟩, r7⟩
        refine pq_lmul (pc' := 62) rfl rfl ?_
        refine pq_l (pc' := 64) rfl rfl rfl rfl rfl ?_
        refine pq_lrem (pc' := 65) rfl rfl ?_
        refine pq_s2 (pc' := 67) rfl rfl rfl rfl rfl ?_
        refine pq_l (pc' := 69) rfl rfl rfl rfl rfl ?_
        refine pq_l (pc' := 71) rfl rfl rfl rfl rfl ?_
        refine pq_l (pc' := 73) rfl rfl rfl rfl rfl ?_
        refine pq_l (pc' := 75) rfl rfl rfl rfl rfl ?_
        refine pq_lsub (pc' := 76) rfl rfl ?_
        refine pq_l (pc' := 78) rfl rfl rfl rfl rfl ?_
        refine pq_cSI (pc' := 81) rfl rfl rfl rfl rfl (c_J9_floorMod_f86c9 L ys d s hv (w64 ((remJ (w64 ((remJ l1 l6) * (cga s (crf s 247 3) l12))) l6) - (remJ (w64 ((remJ l1 l4) * (cga s (crf s 247 4) l12))) l4))) (w64_r _) l6 l6r _ hW) (fun z9 s8 hr => ?_)
        obtain ⟨s8v, z9r, hW⟩ := hr
        refine pq_l (pc' := 83) rfl rfl rfl rfl rfl ?_
        refine pq_lmul (pc' := 84) rfl rfl ?_
        refine pq_l (pc' := 86) rfl rfl rfl rfl rfl ?_
        refine pq_lrem (pc' := 87) rfl rfl ?_
        refine pq_lmul (pc' := 88) rfl rfl ?_
        refine pq_ladd (pc' := 89) rfl rfl ?_
        refine pq_s2 (pc' := 91) rfl rfl rfl rfl rfl ?_
        refine pq_l (pc' := 92) rfl rfl rfl rfl rfl ?_
        refine pq_gr (pc' := 95) (c := 253) (v := 253) rfl rfl rfl rfl rfl rfl s8v ?_
        refine pq_gr (pc' := 98) (c := (253 + 1)) (v := 0) rfl rfl rfl rfl rfl rfl s8v ?_
        refine pq_l (pc' := 100) rfl rfl rfl rfl rfl ?_
        refine pq_l (pc' := 102) rfl rfl rfl rfl rfl ?_
        refine pq_l (pc' := 104) rfl rfl rfl rfl rfl ?_
        refine pq_k (pc' := 107) (v := (1, 2)) rfl rfl rfl (fun _ => rfl) ?_
        refine pq_ldiv (pc' := 108) rfl rfl ?_
        refine pq_lcmp (pc' := 109) rfl rfl (w64_r _) (divJ_r _ _) (fun z10 z10c => ?_)
        have J212 : ∀ v211 : Int, lR v211 → (((0 ≤ l12 ∧ l12 < gln (253 + 1)) → ∀ s213, s213 = cpa s8 (253 + 1) l12 v211 → (I27 ((w32 (l12 + 1)), s213)))) → pq L ys d N27 rm_p_X2_rebuild (122, [(0, (2, ((247 : Nat) : Int))), (1, (1, l1)), (3, (0, l3)), (4, (1, l4)), (6, (1, l6)), (8, (1, l8)), (10, (1, l10)), (12, (0, l12))], [(1, v211), (0, l12), (2, (((253 + 1) : Nat) : Int))], s8) (fun r : im_Re => r.1 = none ∧ (jI r.2 ∧ Q r.2)) := by
          intro v211 v211r hW
          refine pq_ls (pc' := 123) rfl rfl s8v (fun s213a s213b s213 s213e s213v => ?_)
          have hW := hW ⟨s213a, s213b⟩ s213 s213e
          refine pq_inc (pc' := 126) rfl rfl rfl rfl ?_
          refine pq_gotoT (pc' := 27) rfl rfl (fun m214 m214l => ?_)
          refine pq_w [(0, (2, ((247 : Nat) : Int))), (1, (1, l1)), (3, (0, l3)), (4, (1, l4)), (6, (1, l6)), (8, (1, l8)), (10, (1, l10)), (12, (0, (w32 (l12 + 1))))] ⟨rfl, rfl, rfl, rfl, rfl, rfl, rfl, rfl, trivial⟩ ?_
          exact ih27 m214 (by omega) (by omega) (w32 (l12 + 1)) (w32_r _) s213 s213v hW
        refine pq_z_le (pt := 120) (pc' := 112) rfl rfl rfl (fun c11 => ?_) (fun c11 => ?_)
        · have c11 : (w64 ((remJ (w64 ((remJ l1 l4) * (cga s (crf s 247 4) l12))) l4) + (w64 (l4 * (remJ (w64 (z9 * l8)) l6))))) ≤ (divJ l10 2) := by omega
          refine pq_l (pc' := 122) rfl rfl rfl rfl rfl ?_
          refine pq_w [(0, (2, ((247 : Nat) : Int))), (1, (1, l1)), (3, (0, l3)), (4, (1, l4)), (6, (1, l6)), (8, (1, l8)), (10, (1, l10)), (12, (0, l12))] ⟨rfl, rfl, rfl, rfl, rfl, rfl, rfl, rfl, trivial⟩ ?_
          exact J212 (w64 ((remJ (w64 ((remJ l1 l4) * (cga s (crf s 247 4) l12))) l4) + (w64 (l4 * (remJ (w64 (z9 * l8)) l6))))) (w64_r _) (hW _ (by rw [if_pos c11]))
        · have c11 : ¬ ((w64 ((remJ (w64 ((remJ l1 l4) * (cga s (crf s 247 4) l12))) l4) + (w64 (l4 * (remJ (w64 (z9 * l8)) l6))))) ≤ (divJ l10 2)) := by omega
          refine pq_l (pc' := 114) rfl rfl rfl rfl rfl ?_
          refine pq_l (pc' := 116) rfl rfl rfl rfl rfl ?_
          refine pq_lsub (pc' := 117) rfl rfl ?_
          refine pq_goto (pc' := 122) rfl rfl ?_
          refine pq_w [(0, (2, ((247 : Nat) : Int))), (1, (1, l1)), (3, (0, l3)), (4, (1, l4)), (6, (1, l6)), (8, (1, l8)), (10, (1, l10)), (12, (0, l12))] ⟨rfl, rfl, rfl, rfl, rfl, rfl, rfl, rfl, trivial⟩ ?_
          exact J212 (w64 ((w64 ((remJ (w64 ((remJ l1 l4) * (cga s (crf s 247 4) l12))) l4) + (w64 (l4 * (remJ (w64 (z9 * l8)) l6))))) - l10)) (w64_r _) (hW _ (by rw [if_neg (fun z => c11 z)]))
  unfold C_rebuild2 at hW
  refine pq_l (pc' := 2) rfl rfl rfl rfl rfl ?_
  refine pq_l (pc' := 4) rfl rfl rfl rfl rfl ?_
  refine pq_cSI (pc' := 7) rfl rfl rfl rfl rfl (c_inverse2 L ys d s hv l4 l4r l6 l6r _ hW) (fun z216 s215 hr => ?_)
  obtain ⟨s215v, z216r, hW⟩ := hr
  refine pq_s2 (pc' := 9) rfl rfl rfl rfl rfl ?_
  refine pq_l (pc' := 11) rfl rfl rfl rfl rfl ?_
  refine pq_l (pc' := 13) rfl rfl rfl rfl rfl ?_
  refine pq_lmul (pc' := 14) rfl rfl ?_
  refine pq_s2 (pc' := 16) rfl rfl rfl rfl rfl ?_
  refine pq_l (pc' := 17) rfl rfl rfl rfl rfl ?_
  refine pq_gr (pc' := 20) (c := 253) (v := 253) rfl rfl rfl rfl rfl rfl s215v ?_
  refine pq_k (pc' := 21) (v := (1, 0)) rfl rfl rfl (fun _ => rfl) ?_
  refine pq_cVV (pc' := 24) rfl rfl rfl rfl rfl (c_setConstant6 L ys d s215 s215v 253 0 (⟨by decide, by decide⟩ : lR 0) _ hW) (fun s217 hr => ?_)
  obtain ⟨s217v, hW⟩ := hr
  refine pq_k (pc' := 25) (v := (0, 0)) rfl rfl rfl (fun _ => rfl) ?_
  refine pq_s (pc' := 27) rfl rfl rfl rfl rfl ?_
  refine pq_w [(0, (2, ((247 : Nat) : Int))), (1, (1, l1)), (3, (0, l3)), (4, (1, l4)), (6, (1, l6)), (8, (1, z216)), (10, (1, (w64 (l4 * l6)))), (12, (0, 0))] ⟨rfl, rfl, rfl, rfl, rfl, rfl, rfl, rfl, trivial⟩ ?_
  obtain ⟨I9, hI9, hB9⟩ := hW
  exact J27 l1 l1r l3 l3r l4 l4r l6 l6r z216 z216r (w64 (l4 * l6)) (w64_r _) I9 hB9 N (by omega) 0 (⟨by decide, by decide⟩ : iR 0) s217 s217v hI9
def C_J9_max_f86c9 (l0 : Int) (l2 : Int) (s : im_S) (Q : Int → im_S → Prop) : Prop := (∀ v202 : Int, v202 = (if l0 < l2 then l2 else l0) → (Q v202 s))
set_option maxRecDepth 16384 in
theorem c_J9_max_f86c9 (L : Nat) (ys : Nat → Int32) (d : Nat) (s : im_S) (hv : jI s) (l0 : Int) (l0r : lR l0) (l2 : Int) (l2r : lR l2) (Q : Int → im_S → Prop) (hW : C_J9_max_f86c9 l0 l2 s Q) : pcI L ys 1 d 243 [(1, l0), (1, l2)] s (fun z9 s9 => jI s9 ∧ lR z9 ∧ Q z9 s9) := by
  intro res hres
  refine pq_start (M := rm_p_J9_max_f86c9) (Q := (fun r : im_Re => ∃ z, r.1 = some (1, z) ∧ (jI r.2 ∧ lR z ∧ Q z r.2))) om_J9_max_f86c9 (fun d N => ?_) res hres
  refine pq_w [(0, (1, l0)), (2, (1, l2))] ⟨rfl, rfl, trivial⟩ ?_
  unfold C_J9_max_f86c9 at hW
  refine pq_l (pc' := 1) rfl rfl rfl rfl rfl ?_
  refine pq_l (pc' := 2) rfl rfl rfl rfl rfl ?_
  refine pq_lcmp (pc' := 3) rfl rfl l0r l2r (fun z1 z1c => ?_)
  have J203 : ∀ v202 : Int, lR v202 → ((Q v202 s)) → pq L ys d N rm_p_J9_max_f86c9 (11, [], [(1, v202)], s) (fun r : im_Re => ∃ z, r.1 = some (1, z) ∧ (jI r.2 ∧ lR z ∧ Q z r.2)) := by
    intro v202 v202r hW
    exact pq_lret rfl ⟨_, rfl, hv, v202r, hW⟩
  refine pq_z_lt (pt := 10) (pc' := 6) rfl rfl rfl (fun c2 => ?_) (fun c2 => ?_)
  · have c2 : l0 < l2 := by omega
    refine pq_l (pc' := 11) rfl rfl rfl rfl rfl ?_
    refine pq_w [] trivial ?_
    exact J203 l2 l2r (hW _ (by rw [if_pos c2]))
  · have c2 : ¬ (l0 < l2) := by omega
    refine pq_l (pc' := 7) rfl rfl rfl rfl rfl ?_
    refine pq_goto (pc' := 11) rfl rfl ?_
    refine pq_w [] trivial ?_
    exact J203 l0 l0r (hW _ (by rw [if_neg (fun z => c2 z)]))
def C_divide2_135 (K82 : Int × im_S → Prop) (K135 : Int × im_S → Prop) (l2 : Nat) (l3 : Int) (l5 : Int) (l7 : Int) (l8 : Int) (l10 : Int) (s : im_S) (Q : Int → im_S → Prop) : Prop := (((cgf s l2 0) < l10 → (caJ s 250 (w32 (l7 + (cgf s l2 0))) → (((cga s 250 (w32 (l7 + (cgf s l2 0)))) = 0 → (K82 ((w32 (l7 + (-1))), s))) ∧ (¬ ((cga s 250 (w32 (l7 + (cgf s l2 0)))) = 0) → (Q 0 s))))) ∧ (¬ ((cgf s l2 0) < l10) → (caJ s 250 (w32 (l7 + l10)) → (caJ s (l2 + 1) l10 → ((0 ≤ (w32 (l7 + l10)) ∧ (w32 (l7 + l10)) < gln 250) → ∀ s10, s10 = cpa s 250 (w32 (l7 + l10)) (w64 ((cga s 250 (w32 (l7 + l10))) - (w64 (l8 * (cga s (l2 + 1) l10))))) → (K135 ((w32 (l10 + 1)), s10)))))))
def C_divide2_82 (K82 : Int × im_S → Prop) (l2 : Nat) (l3 : Int) (l5 : Int) (l7 : Int) (s : im_S) (Q : Int → im_S → Prop) : Prop := ((l7 < 0 → (C_measure6 257 s (fun s13 => (C_degreeOf2 250 s13 (fun z16 s15 => (∀ v217 : Int, v217 = (if 0 ≤ z16 then 0 else 1) → (Q v217 s15))))))) ∧ (¬ (l7 < 0) → (caJ s 250 (w32 (l7 + (cgf s l2 0))) → (C_J9_abs_067f4 (divJ (cga s 250 (w32 (l7 + (cgf s l2 0)))) l3) s (fun z222 s221 => ((z222 ≤ (divJ 288230376151711744 l5) → ((0 ≤ l7 ∧ l7 < gln (257 + 1)) → ∀ s225, s225 = cpa s221 (257 + 1) l7 (divJ (cga s 250 (w32 (l7 + (cgf s l2 0)))) l3) → (ploop (fun (K : Int × im_S → Prop) (a : Int × im_S) => C_divide2_135 K82 K l2 l3 l5 l7 (divJ (cga s 250 (w32 (l7 + (cgf s l2 0)))) l3) a.1 a.2 Q) (0, s225)))) ∧ (¬ (z222 ≤ (divJ 288230376151711744 l5)) → (Q 0 s221))))))))
def C_divide2_27 (K27 : Int × Int × im_S → Prop) (l1 : Nat) (l2 : Nat) (l3 : Int) (l5 : Int) (l7 : Int) (s : im_S) (Q : Int → im_S → Prop) : Prop := ((8 < l7 → (ploop (fun (K : Int × im_S → Prop) (a : Int × im_S) => C_divide2_82 K l2 l3 l5 a.1 a.2 Q) ((w32 ((cgf s l1 0) - (cgf s l2 0))), s))) ∧ (¬ (8 < l7) → (caJ s (l1 + 1) l7 → ((0 ≤ l7 ∧ l7 < gln 250) → ∀ s230, s230 = cpa s 250 l7 (cga s (l1 + 1) l7) → (caJ s230 (l2 + 1) l7 → (C_J9_abs_067f4 (cga s230 (l2 + 1) l7) s230 (fun z233 s232 => (C_J9_max_f86c9 l5 z233 s232 (fun z235 s234 => (K27 (z235, (w32 (l7 + 1)), s234)))))))))))
def C_divide2 (l1 : Nat) (l2 : Nat) (s : im_S) (Q : Int → im_S → Prop) : Prop := (C_setConstant6 257 0 s (fun s237 => (C_lead6 l2 s237 (fun z240 s239 => ((¬ (z240 = 0) → (ploop (fun (K : Int × Int × im_S → Prop) (a : Int × Int × im_S) => C_divide2_27 K l1 l2 z240 a.1 a.2.1 a.2.2 Q) (1, 0, s239))) ∧ (z240 = 0 → (Q 0 s239)))))))
set_option maxRecDepth 16384 in
theorem c_divide2 (L : Nat) (ys : Nat → Int32) (d : Nat) (s : im_S) (hv : jI s) (l1 : Nat) (l2 : Nat) (Q : Int → im_S → Prop) (hW : C_divide2 l1 l2 s Q) : pcI L ys 0 d 124 [(2, ((247 : Nat) : Int)), (2, ((l1 : Nat) : Int)), (2, ((l2 : Nat) : Int))] s (fun z9 s9 => jI s9 ∧ iR z9 ∧ Q z9 s9) := by
  intro res hres
  refine pq_start (M := rm_p_X2_divide) (Q := (fun r : im_Re => ∃ z, r.1 = some (0, z) ∧ (jI r.2 ∧ iR z ∧ Q z r.2))) om_X2_divide (fun d N => ?_) res hres
  refine pq_w [(0, (2, ((247 : Nat) : Int))), (1, (2, ((l1 : Nat) : Int))), (2, (2, ((l2 : Nat) : Int)))] ⟨rfl, rfl, rfl, trivial⟩ ?_
  have J82 : ∀ (l2 : Nat) (l3 : Int) (l3r : lR l3) (l5 : Int) (l5r : lR l5) (I82 : Int × im_S → Prop) (hB82 : ∀ a : Int × im_S, I82 a → C_divide2_82 I82 l2 l3 l5 a.1 a.2 Q), ∀ N82 : Nat, N82 ≤ N → ∀ (l7 : Int) (l7r : iR l7) (s : im_S) (hv : jI s), I82 (l7, s) → pq L ys d N82 rm_p_X2_divide (82, [(0, (2, ((247 : Nat) : Int))), (2, (2, ((l2 : Nat) : Int))), (3, (1, l3)), (5, (1, l5)), (7, (0, l7))], [], s) (fun r : im_Re => ∃ z, r.1 = some (0, z) ∧ (jI r.2 ∧ iR z ∧ Q z r.2)) := by
    intro l2 l3 l3r l5 l5r I82 hB82 N82
    induction N82 using Nat.strongRecOn with
    | _ N82 ih82 =>
      intro hN82 l7 l7r s hv hI
      have hW : C_divide2_82 I82 l2 l3 l5 l7 s Q := hB82 (l7, s) hI
      have J135 : ∀ (l7 : Int) (l7r : iR l7) (l8 : Int) (l8r : lR l8) (I135 : Int × im_S → Prop) (hB135 : ∀ a : Int × im_S, I135 a → C_divide2_135 I82 I135 l2 l3 l5 l7 l8 a.1 a.2 Q), ∀ N135 : Nat, N135 ≤ N82 → ∀ (l10 : Int) (l10r : iR l10) (s : im_S) (hv : jI s), I135 (l10, s) → pq L ys d N135 rm_p_X2_divide (135, [(0, (2, ((247 : Nat) : Int))), (2, (2, ((l2 : Nat) : Int))), (3, (1, l3)), (5, (1, l5)), (7, (0, l7)), (8, (1, l8)), (10, (0, l10))], [], s) (fun r : im_Re => ∃ z, r.1 = some (0, z) ∧ (jI r.2 ∧ iR z ∧ Q z r.2)) := by
        intro l7 l7r l8 l8r I135 hB135 N135
        induction N135 using Nat.strongRecOn with
        | _ N135 ih135 =>
          intro hN135 l10 l10r s hv hI
          have hW : C_divide2_135 I82 I135 l2 l3 l5 l7 l8 l10 s Q := hB135 (l10, s) hI
          unfold C_divide2_135 at hW
          refine pq_l (pc' := 137) rfl rfl rfl rfl rfl ?_
          refine pq_l (pc' := 138) rfl rfl rfl rfl rfl ?_
          refine pq_gi (pc' := 141) rfl rfl rfl rfl rfl (fun r1 => ?_)
          refine pq_c_gt (pt := 173) (pc' := 144) rfl rfl rfl (fun c2 => ?_) (fun c2 => ?_)
          · have hW := hW.1 c2
            refine pq_l (pc' := 174) rfl rfl rfl rfl rfl ?_
            refine pq_gr (pc' := 177) (c := 250) (v := 250) rfl rfl rfl rfl rfl rfl hv ?_
            refine pq_l (pc' := 179) rfl rfl rfl rfl rfl ?_
            refine pq_l (pc' := 180) rfl rfl rfl rfl rfl ?_
            refine pq_gi (pc' := 183) rfl rfl rfl rfl rfl (fun r3 => ?_)
            refine pq_add (pc' := 184) rfl rfl ?_
            refine pq_la (pc' := 185) rfl rfl (fun r4a r4b r4 => ?_)
            have hW := hW ⟨⟨r4a, r4b⟩, r4⟩
            refine pq_k (pc' := 186) (v := (1, 0)) rfl rfl rfl (fun _ => rfl) ?_
            refine pq_lcmp (pc' := 187) rfl rfl r4 (⟨by decide, by decide⟩ : lR 0) (fun z5 z5c => ?_)
            refine pq_z_eq (pt := 192) (pc' := 190) rfl rfl rfl (fun c6 => ?_) (fun c6 => ?_)
            · have c6 : (cga s 250 (w32 (l7 + (cgf s l2 0)))) = 0 := by omega
              have hW := hW.1 c6
              refine pq_inc (pc' := 195) rfl rfl rfl rfl ?_
              refine pq_gotoT (pc' := 82) rfl rfl (fun m7 m7l => ?_)
              refine pq_w [(0, (2, ((247 : Nat) : Int))), (2, (2, ((l2 : Nat) : Int))), (3, (1, l3)), (5, (1, l5)), (7, (0, (w32 (l7 + (-1)))))] ⟨rfl, rfl, rfl, rfl, rfl, trivial⟩ ?_
              exact ih82 m7 (by omega) (by omega) (w32 (l7 + (-1))) (w32_r _) s hv hW
            · have c6 : ¬ ((cga s 250 (w32 (l7 + (cgf s l2 0)))) = 0) := by omega
              have hW := hW.2 c6
              refine pq_k (pc' := 191) (v := (0, 0)) rfl rfl rfl (fun _ => rfl) ?_
              exact pq_iret rfl ⟨_, rfl, hv, (⟨by decide, by decide⟩ : iR 0), hW⟩
          · have hW := hW.2 c2
            refine pq_l (pc' := 145) rfl rfl rfl rfl rfl ?_
            refine pq_gr (pc' := 148) (c := 250) (v := 250) rfl rfl rfl rfl rfl rfl hv ?_
            refine pq_l (pc' := 150) rfl rfl rfl rfl rfl ?_
            refine pq_l (pc' := 152) rfl rfl rfl rfl rfl ?_
            refine pq_add (pc' := 153) rfl rfl ?_
            refine pq_x (pc' := 154) rfl rfl rfl (fun _ => rfl) ?_
            refine pq_la (pc' := 155) rfl rfl (fun r8a r8b r8 => ?_)
            have hW := hW ⟨⟨r8a, r8b⟩, r8⟩
            refine pq_l (pc' := 157) rfl rfl rfl rfl rfl ?_
            refine pq_l (pc' := 158) rfl rfl rfl rfl rfl ?_
            refine pq_gr (pc' := 161) (c := (l2 + 1)) (v := 0) rfl rfl rfl rfl rfl rfl hv ?_
            refine pq_l (pc' := 163) rfl rfl rfl rfl rfl ?_
            refine pq_la (pc' := 164) rfl rfl (fun r9a r9b r9 => ?_)
            have hW := hW ⟨⟨r9a, r9b⟩, r9⟩
            refine pq_lmul (pc' := 165) rfl rfl ?_
            refine pq_lsub (pc' := 166) rfl rfl ?_
            refine pq_ls (pc' := 167) rfl rfl hv (fun s10a s10b s10 s10e s10v => ?_)
            have hW := hW ⟨s10a, s10b⟩ s10 s10e
            refine pq_inc (pc' := 170) rfl rfl rfl rfl ?_
            refine pq_gotoT (pc' := 135) rfl rfl (fun m11 m11l => ?_)
            refine pq_w [(0, (2, ((247 : Nat) : Int))), (2, (2, ((l2 : Nat) : Int))), (3, (1, l3)), (5, (1, l5)), (7, (0, l7)), (8, (1, l8)), (10, (0, (w32 (l10 + 1))))] ⟨rfl, rfl, rfl, rfl, rfl, rfl, rfl, trivial⟩ ?_
            exact ih135 m11 (by omega) (by omega) (w32 (l10 + 1)) (w32_r _) s10 s10v hW
      unfold C_divide2_82 at hW
      refine pq_l (pc' := 84) rfl rfl rfl rfl rfl ?_
      refine pq_z_lt (pt := 198) (pc' := 87) rfl rfl rfl (fun c12 => ?_) (fun c12 => ?_)
      · have hW := hW.1 c12
        refine pq_l (pc' := 199) rfl rfl rfl rfl rfl ?_
        refine pq_gr (pc' := 202) (c := 257) (v := 257) rfl rfl rfl rfl rfl rfl hv ?_
        refine pq_cVV (pc' := 205) rfl rfl rfl rfl rfl (c_measure6 L ys d s hv 257 _ hW) (fun s13 hr => ?_)
        obtain ⟨s13v, hW⟩ := hr
        refine pq_l (pc' := 206) rfl rfl rfl rfl rfl ?_
        refine pq_gr (pc' := 209) (c := 250) (v := 250) rfl rfl rfl rfl rfl rfl s13v ?_
        refine pq_cSI (pc' := 212) rfl rfl rfl rfl rfl (c_degreeOf2 L ys d s13 s13v 250 _ hW) (fun z16 s15 hr => ?_)
        obtain ⟨s15v, z16r, hW⟩ := hr
        have J218 : ∀ v217 : Int, iR v217 → ((Q v217 s15)) → pq L ys d N82 rm_p_X2_divide (220, [], [(0, v217)], s15) (fun r : im_Re => ∃ z, r.1 = some (0, z) ∧ (jI r.2 ∧ iR z ∧ Q z r.2)) := by
          intro v217 v217r hW
          exact pq_iret rfl ⟨_, rfl, s15v, v217r, hW⟩
        refine pq_z_ge (pt := 219) (pc' := 215) rfl rfl rfl (fun c17 => ?_) (fun c17 => ?_)
        · refine pq_k (pc' := 220) (v := (0, 0)) rfl rfl rfl (fun _ => rfl) ?_
          refine pq_w [] trivial ?_
          exact J218 0 (⟨by decide, by decide⟩ : iR 0) (hW _ (by rw [if_pos c17]))
        · refine pq_k (pc' := 216) (v := (0, 1)) rfl rfl rfl (fun _ => rfl) ?_
          refine pq_goto (pc' := 220) rfl rfl ?_
          refine pq_w [] trivial ?_
          exact J218 1 (⟨by decide, by decide⟩ : iR 1) (hW _ (by rw [if_neg (fun z => c17 z)]))
      · have hW := hW.2 c12
        refine pq_l (pc' := 88) rfl rfl rfl rfl rfl ?_
        refine pq_gr (pc' := 91) (c := 250) (v := 250) rfl rfl rfl rfl rfl rfl hv ?_
        refine pq_l (pc' := 93) rfl rfl rfl rfl rfl ?_
        refine pq_l (pc' := 94) rfl rfl rfl rfl rfl ?_
        refine pq_gi (pc' := 97) rfl rfl rfl rfl rfl (fun r219 => ?_)
        refine pq_add (pc' := 98) rfl rfl ?_
        refine pq_la (pc' := 99) rfl rfl (fun r220a r220b r220 => ?_)
        have hW := hW ⟨⟨r220a, r220b⟩, r220⟩
        refine pq_l (pc' := 100) rfl rfl rfl rfl rfl ?_
        refine pq_ldiv (pc' := 101) rfl rfl ?_
        refine pq_s2 (pc' := 103) rfl rfl rfl rfl rfl ?_
        refine pq_l (pc' := 105) rfl rfl rfl rfl rfl ?_
        refine pq_cSI (pc' := 108) rfl rfl rfl rfl rfl (c_J9_abs_067f4 L ys d s hv (divJ (cga s 250 (w32 (l7 + (cgf s l2 0)))) l3) (divJ_r _ _) _ hW) (fun z222 s221 hr => ?_)
        obtain ⟨s221v, z222r, hW⟩ := hr
        refine pq_k (pc' := 111) (v := (1, 288230376151711744)) rfl rfl rfl (fun _ => rfl) ?_
        refine pq_l (pc' := 113) rfl rfl rfl rfl rfl ?_
        refine pq_ldiv (pc' := 114) rfl rfl ?_
        refine pq_lcmp (pc' := 115) rfl rfl z222r (divJ_r _ _) (fun z223 z223c => ?_)
        refine pq_z_le (pt := 120) (pc' := 118) rfl rfl rfl (fun c224 => ?_) (fun c224 => ?_)
        · have c224 : z222 ≤ (divJ 288230376151711744 l5) := by omega
          have hW := hW.1 c224
          refine pq_l (pc' := 121) rfl rfl rfl rfl rfl ?_
          refine pq_gr (pc' := 124) (c := 257) (v := 257) rfl rfl rfl rfl rfl rfl s221v ?_
          refine pq_gr (pc' := 127) (c := (257 + 1)) (v := 0) rfl rfl rfl rfl rfl rfl s221v ?_
          refine pq_l (pc' := 129) rfl rfl rfl rfl rfl ?_
          refine pq_l (pc' := 131) rfl rfl rfl rfl rfl ?_
          refine pq_ls (pc' := 132) rfl rfl s221v (fun s225a s225b s225 s225e s225v => ?_)
          have hW := hW ⟨s225a, s225b⟩ s225 s225e
          refine pq_k (pc' := 133) (v := (0, 0)) rfl rfl rfl (fun _ => rfl) ?_
          refine pq_s (pc' := 135) rfl rfl rfl rfl rfl ?_
          refine pq_w [(0, (2, ((247 : Nat) : Int))), (2, (2, ((l2 : Nat) : Int))), (3, (1, l3)), (5, (1, l5)), (7, (0, l7)), (8, (1, (divJ (cga s 250 (w32 (l7 + (cgf s l2 0)))) l3))), (10, (0, 0))] ⟨rfl, rfl, rfl, rfl, rfl, rfl, rfl, trivial⟩ ?_
          obtain ⟨I9, hI9, hB9⟩ := hW
          exact J135 l7 l7r (divJ (cga s 250 (w32 (l7 + (cgf s l2 0)))) l3) (divJ_r _ _) I9 hB9 N82 (by omega) 0 (⟨by decide, by decide⟩ : iR 0) s225 s225v hI9
        · have c224 : ¬ (z222 ≤ (divJ 288230376151711744 l5)) := by omega
          have hW := hW.2 c224
          refine pq_k (pc' := 119) (v := (0, 0)) rfl rfl rfl (fun _ => rfl) ?_
          exact pq_iret rfl ⟨_, rfl, s221v, (⟨by decide, by decide⟩ : iR 0), hW⟩
  have J27 : ∀ (l1 : Nat) (l2 : Nat) (l3 : Int) (l3r : lR l3) (I27 : Int × Int × im_S → Prop) (hB27 : ∀ a : Int × Int × im_S, I27 a → C_divide2_27 I27 l1 l2 l3 a.1 a.2.1 a.2.2 Q), ∀ N27 : Nat, N27 ≤ N → ∀ (l5 : Int) (l5r : lR l5) (l7 : Int) (l7r : iR l7) (s : im_S) (hv : jI s), I27 (l5, l7, s) → pq L ys d N27 rm_p_X2_divide (27, [(0, (2, ((247 : Nat) : Int))), (1, (2, ((l1 : Nat) : Int))), (2, (2, ((l2 : Nat) : Int))), (3, (1, l3)), (5, (1, l5)), (7, (0, l7))], [], s) (fun r : im_Re => ∃ z, r.1 = some (0, z) ∧ (jI r.2 ∧ iR z ∧ Q z r.2)) := by
    intro l1 l2 l3 l3r I27 hB27 N27
    induction N27 using Nat.strongRecOn with
    | _ N27 ih27 =>
      intro hN27 l5 l5r l7 l7r s hv hI
      have hW : C_divide2_27 I27 l1 l2 l3 l5 l7 s Q := hB27 (l5, l7, s) hI
      unfold C_divide2_27 at hW
      refine pq_l (pc' := 29) rfl rfl rfl rfl rfl ?_
      refine pq_k (pc' := 31) (v := (0, 8)) rfl rfl rfl (fun _ => rfl) ?_
      refine pq_c_gt (pt := 71) (pc' := 34) rfl rfl rfl (fun c226 => ?_) (fun c226 => ?_)
      · have hW := hW.1 c226
        refine pq_l (pc' := 72) rfl rfl rfl rfl rfl ?_
        refine pq_gi (pc' := 75) rfl rfl rfl rfl rfl (fun r227 => ?_)
        refine pq_l (pc' := 76) rfl rfl rfl rfl rfl ?_
        refine pq_gi (pc' := 79) rfl rfl rfl rfl rfl (fun r228 => ?_)
        refine pq_sub (pc' := 80) rfl rfl ?_
        refine pq_s (pc' := 82) rfl rfl rfl rfl rfl ?_
        refine pq_w [(0, (2, ((247 : Nat) : Int))), (2, (2, ((l2 : Nat) : Int))), (3, (1, l3)), (5, (1, l5)), (7, (0, (w32 ((cgf s l1 0) - (cgf s l2 0)))))] ⟨rfl, rfl, rfl, rfl, rfl, trivial⟩ ?_
        obtain ⟨I9, hI9, hB9⟩ := hW
        exact J82 l2 l3 l3r l5 l5r I9 hB9 N27 (by omega) (w32 ((cgf s l1 0) - (cgf s l2 0))) (w32_r _) s hv hI9
      · have hW := hW.2 c226
        refine pq_l (pc' := 35) rfl rfl rfl rfl rfl ?_
        refine pq_gr (pc' := 38) (c := 250) (v := 250) rfl rfl rfl rfl rfl rfl hv ?_
        refine pq_l (pc' := 40) rfl rfl rfl rfl rfl ?_
        refine pq_l (pc' := 41) rfl rfl rfl rfl rfl ?_
        refine pq_gr (pc' := 44) (c := (l1 + 1)) (v := 0) rfl rfl rfl rfl rfl rfl hv ?_
        refine pq_l (pc' := 46) rfl rfl rfl rfl rfl ?_
        refine pq_la (pc' := 47) rfl rfl (fun r229a r229b r229 => ?_)
        have hW := hW ⟨⟨r229a, r229b⟩, r229⟩
        refine pq_ls (pc' := 48) rfl rfl hv (fun s230a s230b s230 s230e s230v => ?_)
        have hW := hW ⟨s230a, s230b⟩ s230 s230e
        refine pq_l (pc' := 50) rfl rfl rfl rfl rfl ?_
        refine pq_l (pc' := 51) rfl rfl rfl rfl rfl ?_
        refine pq_gr (pc' := 54) (c := (l2 + 1)) (v := 0) rfl rfl rfl rfl rfl rfl s230v ?_
        refine pq_l (pc' := 56) rfl rfl rfl rfl rfl ?_
        refine pq_la (pc' := 57) rfl rfl (fun r231a r231b r231 => ?_)
        have hW := hW ⟨⟨r231a, r231b⟩, r231⟩
        refine pq_cSI (pc' := 60) rfl rfl rfl rfl rfl (c_J9_abs_067f4 L ys d s230 s230v (cga s230 (l2 + 1) l7) r231 _ hW) (fun z233 s232 hr => ?_)
        obtain ⟨s232v, z233r, hW⟩ := hr
        refine pq_cSI (pc' := 63) rfl rfl rfl rfl rfl (c_J9_max_f86c9 L ys d s232 s232v l5 l5r z233 z233r _ hW) (fun z235 s234 hr => ?_)
        obtain ⟨s234v, z235r, hW⟩ := hr
        refine pq_s2 (pc' := 65) rfl rfl rfl rfl rfl ?_
        refine pq_inc (pc' := 68) rfl rfl rfl rfl ?_
        refine pq_gotoT (pc' := 27) rfl rfl (fun m236 m236l => ?_)
        refine pq_w [(0, (2, ((247 : Nat) : Int))), (1, (2, ((l1 : Nat) : Int))), (2, (2, ((l2 : Nat) : Int))), (3, (1, l3)), (5, (1, z235)), (7, (0, (w32 (l7 + 1))))] ⟨rfl, rfl, rfl, rfl, rfl, rfl, trivial⟩ ?_
        exact ih27 m236 (by omega) (by omega) z235 z235r (w32 (l7 + 1)) (w32_r _) s234 s234v hW
  unfold C_divide2 at hW
  refine pq_l (pc' := 1) rfl rfl rfl rfl rfl ?_
  refine pq_gr (pc' := 4) (c := 257) (v := 257) rfl rfl rfl rfl rfl rfl hv ?_
  refine pq_k (pc' := 5) (v := (1, 0)) rfl rfl rfl (fun _ => rfl) ?_
  refine pq_cVV (pc' := 8) rfl rfl rfl rfl rfl (c_setConstant6 L ys d s hv 257 0 (⟨by decide, by decide⟩ : lR 0) _ hW) (fun s237 hr => ?_)
  obtain ⟨s237v, hW⟩ := hr
  refine pq_l (pc' := 9) rfl rfl rfl rfl rfl ?_
  refine pq_cVI (pc' := 12) rfl rfl rfl rfl rfl (c_lead6 L ys d s237 s237v l2 _ hW) (fun z240 s239 hr => ?_)
  obtain ⟨s239v, z240r, hW⟩ := hr
  refine pq_s2 (pc' := 13) rfl rfl rfl rfl rfl ?_
  refine pq_l (pc' := 14) rfl rfl rfl rfl rfl ?_
  refine pq_k (pc' := 15) (v := (1, 0)) rfl rfl rfl (fun _ => rfl) ?_
  refine pq_lcmp (pc' := 16) rfl rfl z240r (⟨by decide, by decide⟩ : lR 0) (fun z241 z241c => ?_)
  refine pq_z_ne (pt := 21) (pc' := 19) rfl rfl rfl (fun c242 => ?_) (fun c242 => ?_)
  · have c242 : ¬ (z240 = 0) := by omega
    have hW := hW.1 c242
    refine pq_k (pc' := 22) (v := (1, 1)) rfl rfl rfl (fun _ => rfl) ?_
    refine pq_s2 (pc' := 24) rfl rfl rfl rfl rfl ?_
    refine pq_k (pc' := 25) (v := (0, 0)) rfl rfl rfl (fun _ => rfl) ?_
    refine pq_s (pc' := 27) rfl rfl rfl rfl rfl ?_
    refine pq_w [(0, (2, ((247 : Nat) : Int))), (1, (2, ((l1 : Nat) : Int))), (2, (2, ((l2 : Nat) : Int))), (3, (1, z240)), (5, (1, 1)), (7, (0, 0))] ⟨rfl, rfl, rfl, rfl, rfl, rfl, trivial⟩ ?_
    obtain ⟨I9, hI9, hB9⟩ := hW
    exact J27 l1 l2 z240 z240r I9 hB9 N (by omega) 1 (⟨by decide, by decide⟩ : lR 1) 0 (⟨by decide, by decide⟩ : iR 0) s239 s239v hI9
  · have c242 : z240 = 0 := by omega
    have hW := hW.2 c242
    refine pq_k (pc' := 20) (v := (0, 0)) rfl rfl rfl (fun _ => rfl) ?_
    exact pq_iret rfl ⟨_, rfl, s239v, (⟨by decide, by decide⟩ : iR 0), hW⟩
def C_find2_140 (K30 : Int × Int × im_S → Prop) (l1 : Nat) (l2 : Nat) (l4 : Int) (l5 : Int) (s : im_S) (Q : im_S → Prop) : Prop := (∀ s1, s1 = cpf s 247 3 (((crf s 247 4) : Nat) : Int) → (∀ s2, s2 = cpf s1 247 4 (((crf s 247 3) : Nat) : Int) → (K30 (l5, (w32 (l4 + 1)), s2))))
def C_find2_30 (K30 : Int × Int × im_S → Prop) (l1 : Nat) (l2 : Nat) (l3 : Int) (l4 : Int) (s : im_S) (Q : im_S → Prop) : Prop := ((44 ≤ l4 → (Q s)) ∧ (¬ (44 ≤ l4) → (∀ z5 : Int, prz z5 → (C_imageModulo2 l1 l2 z5 s (fun z7 s6 => ((¬ (z7 = 0) → ((l4 ≤ 0 → (C_find2_140 K30 l1 l2 l4 z7 s6 Q)) ∧ (¬ (l4 ≤ 0) → ((¬ (z7 = l3) → (C_find2_140 K30 l1 l2 l4 z7 s6 Q)) ∧ (z7 = l3 → (C_lead6 l1 s6 (fun z12 s11 => (C_lead6 l2 s11 (fun z14 s13 => (C_gcd6 z12 z14 s13 (fun z16 s15 => (∀ z17 : Int, prz z17 → (∀ z18 : Int, prz z18 → (C_rebuild2 z16 z7 z17 z18 s15 (fun s19 => (C_divide2 l1 253 s19 (fun z22 s21 => ((z22 = 0 → (C_find2_140 K30 l1 l2 l4 z7 s21 Q)) ∧ (¬ (z22 = 0) → (C_divide2 l2 253 s21 (fun z25 s24 => ((z25 = 0 → (C_find2_140 K30 l1 l2 l4 z7 s24 Q)) ∧ (¬ (z25 = 0) → (C_copy6 255 253 s24 (fun s27 => (Q s27)))))))))))))))))))))))))) ∧ (z7 = 0 → (Q s6))))))))
def C_find2_24 (s : im_S) (Q : im_S → Prop) : Prop := (Q s)
def C_find2 (l1 : Nat) (l2 : Nat) (s : im_S) (Q : im_S → Prop) : Prop := (C_setConstant6 255 1 s (fun s29 => (((cgf s29 l1 0) < 1 → (C_find2_24 s29 Q)) ∧ (¬ ((cgf s29 l1 0) < 1) → ((1 ≤ (cgf s29 l2 0) → (ploop (fun (K : Int × Int × im_S → Prop) (a : Int × Int × im_S) => C_find2_30 K l1 l2 a.1 a.2.1 a.2.2 Q) ((-1), 0, s29))) ∧ (¬ (1 ≤ (cgf s29 l2 0)) → (C_find2_24 s29 Q)))))))
set_option maxRecDepth 16384 in
theorem c_find2 (L : Nat) (ys : Nat → Int32) (d : Nat) (s : im_S) (hv : jI s) (l1 : Nat) (l2 : Nat) (Q : im_S → Prop) (hW : C_find2 l1 l2 s Q) : pcV L ys d 126 [(2, ((247 : Nat) : Int)), (2, ((l1 : Nat) : Int)), (2, ((l2 : Nat) : Int))] s (fun s9 => jI s9 ∧ Q s9) := by
  intro res hres
  refine pq_start (M := rm_p_X2_find) (Q := (fun r : im_Re => r.1 = none ∧ (jI r.2 ∧ Q r.2))) om_X2_find (fun d N => ?_) res hres
  refine pq_w [(0, (2, ((247 : Nat) : Int))), (1, (2, ((l1 : Nat) : Int))), (2, (2, ((l2 : Nat) : Int)))] ⟨rfl, rfl, rfl, trivial⟩ ?_
  have J30 : ∀ (l1 : Nat) (l2 : Nat) (I30 : Int × Int × im_S → Prop) (hB30 : ∀ a : Int × Int × im_S, I30 a → C_find2_30 I30 l1 l2 a.1 a.2.1 a.2.2 Q), ∀ N30 : Nat, N30 ≤ N → ∀ (l3 : Int) (l3r : iR l3) (l4 : Int) (l4r : iR l4) (s : im_S) (hv : jI s), I30 (l3, l4, s) → pq L ys d N30 rm_p_X2_find (30, [(0, (2, ((247 : Nat) : Int))), (1, (2, ((l1 : Nat) : Int))), (2, (2, ((l2 : Nat) : Int))), (3, (0, l3)), (4, (0, l4))], [], s) (fun r : im_Re => r.1 = none ∧ (jI r.2 ∧ Q r.2)) := by
    intro l1 l2 I30 hB30 N30
    induction N30 using Nat.strongRecOn with
    | _ N30 ih30 =>
      intro hN30 l3 l3r l4 l4r s hv hI
      have hW : C_find2_30 I30 l1 l2 l3 l4 s Q := hB30 (l3, l4, s) hI
      have J140 : ∀ N140 : Nat, N140 ≤ N30 → ∀ (l4 : Int) (l4r : iR l4) (l5 : Int) (l5r : iR l5) (s : im_S) (hv : jI s), C_find2_140 I30 l1 l2 l4 l5 s Q → pq L ys d N140 rm_p_X2_find (140, [(0, (2, ((247 : Nat) : Int))), (1, (2, ((l1 : Nat) : Int))), (2, (2, ((l2 : Nat) : Int))), (4, (0, l4)), (5, (0, l5))], [], s) (fun r : im_Re => r.1 = none ∧ (jI r.2 ∧ Q r.2)) := by
        intro N140 hN140 l4 l4r l5 l5r s hv hW
        unfold C_find2_140 at hW
        refine pq_l (pc' := 142) rfl rfl rfl rfl rfl ?_
        refine pq_s (pc' := 143) rfl rfl rfl rfl rfl ?_
        refine pq_l (pc' := 144) rfl rfl rfl rfl rfl ?_
        refine pq_gm (pc' := 147) rfl rfl rfl rfl (jI_d0 hv).1 ?_
        refine pq_s (pc' := 149) rfl rfl rfl rfl rfl ?_
        refine pq_l (pc' := 150) rfl rfl rfl rfl rfl ?_
        refine pq_l (pc' := 151) rfl rfl rfl rfl rfl ?_
        refine pq_gm (pc' := 154) rfl rfl rfl rfl (jI_d0 hv).2 ?_
        refine pq_pX (pc' := 157) rfl rfl rfl rfl (fun e => absurd e (by decide)) (fun _ => (jI_d hv).2) hv (fun s1 s1e s1v => ?_)
        have hW := hW s1 s1e
        refine pq_l (pc' := 158) rfl rfl rfl rfl rfl ?_
        refine pq_l (pc' := 160) rfl rfl rfl rfl rfl ?_
        refine pq_pX (pc' := 163) rfl rfl rfl rfl (fun e => absurd e (by decide)) (fun _ => (jI_d hv).1) s1v (fun s2 s2e s2v => ?_)
        have hW := hW s2 s2e
        refine pq_inc (pc' := 166) rfl rfl rfl rfl ?_
        refine pq_gotoT (pc' := 30) rfl rfl (fun m3 m3l => ?_)
        refine pq_w [(0, (2, ((247 : Nat) : Int))), (1, (2, ((l1 : Nat) : Int))), (2, (2, ((l2 : Nat) : Int))), (3, (0, l5)), (4, (0, (w32 (l4 + 1))))] ⟨rfl, rfl, rfl, rfl, rfl, trivial⟩ ?_
        exact ih30 m3 (by omega) (by omega) l5 l5r (w32 (l4 + 1)) (w32_r _) s2 s2v hW
      unfold C_find2_30 at hW
      refine pq_l (pc' := 32) rfl rfl rfl rfl rfl ?_
      refine pq_k (pc' := 35) (v := (4, 6)) rfl rfl rfl (fun _ => rfl) ?_
      refine pq_prl (pc' := 36) rfl rfl ?_
      refine pq_c_ge (pt := 169) (pc' := 39) rfl rfl rfl (fun c4 => ?_) (fun c4 => ?_)
      · have hW := hW.1 c4
        exact pq_vret rfl ⟨rfl, hv, hW⟩
      · have hW := hW.2 c4
        refine pq_l (pc' := 40) rfl rfl rfl rfl rfl ?_
        refine pq_l (pc' := 41) rfl rfl rfl rfl rfl ?_
        refine pq_l (pc' := 42) rfl rfl rfl rfl rfl ?_
        refine pq_k (pc' := 45) (v := (4, 6)) rfl rfl rfl (fun _ => rfl) ?_
        refine pq_l (pc' := 47) rfl rfl rfl rfl rfl ?_
        refine pq_pra (pc' := 48) rfl rfl (fun z5 z5p => ?_)
        have z5r := prz_i z5p
        have hW := hW z5 z5p
        refine pq_i2l (pc' := 49) rfl rfl z5r ?_
        refine pq_cVI (pc' := 52) rfl rfl rfl rfl rfl (c_imageModulo2 L ys d s hv l1 l2 z5 (iR_l z5r) _ hW) (fun z7 s6 hr => ?_)
        obtain ⟨s6v, z7r, hW⟩ := hr
        refine pq_s (pc' := 54) rfl rfl rfl rfl rfl ?_
        refine pq_l (pc' := 56) rfl rfl rfl rfl rfl ?_
        refine pq_z_ne (pt := 60) (pc' := 59) rfl rfl rfl (fun c8 => ?_) (fun c8 => ?_)
        · have hW := hW.1 c8
          refine pq_l (pc' := 62) rfl rfl rfl rfl rfl ?_
          refine pq_z_le (pt := 140) (pc' := 65) rfl rfl rfl (fun c9 => ?_) (fun c9 => ?_)
          · have hW := hW.1 c9
            refine pq_w [(0, (2, ((247 : Nat) : Int))), (1, (2, ((l1 : Nat) : Int))), (2, (2, ((l2 : Nat) : Int))), (4, (0, l4)), (5, (0, z7))] ⟨rfl, rfl, rfl, rfl, rfl, trivial⟩ ?_
            exact J140 N30 (by omega) l4 l4r z7 z7r s6 s6v hW
          · have hW := hW.2 c9
            refine pq_l (pc' := 67) rfl rfl rfl rfl rfl ?_
            refine pq_l (pc' := 68) rfl rfl rfl rfl rfl ?_
            refine pq_c_ne (pt := 140) (pc' := 71) rfl rfl rfl (fun c10 => ?_) (fun c10 => ?_)
            · have hW := hW.1 c10
              refine pq_w [(0, (2, ((247 : Nat) : Int))), (1, (2, ((l1 : Nat) : Int))), (2, (2, ((l2 : Nat) : Int))), (4, (0, l4)), (5, (0, z7))] ⟨rfl, rfl, rfl, rfl, rfl, trivial⟩ ?_
              exact J140 N30 (by omega) l4 l4r z7 z7r s6 s6v hW
            · have hW := hW.2 c10
              refine pq_l (pc' := 72) rfl rfl rfl rfl rfl ?_
              refine pq_l (pc' := 73) rfl rfl rfl rfl rfl ?_
              refine pq_cVI (pc' := 76) rfl rfl rfl rfl rfl (c_lead6 L ys d s6 s6v l1 _ hW) (fun z12 s11 hr => ?_)
              obtain ⟨s11v, z12r, hW⟩ := hr
              refine pq_l (pc' := 77) rfl rfl rfl rfl rfl ?_
              refine pq_cVI (pc' := 80) rfl rfl rfl rfl rfl (c_lead6 L ys d s11 s11v l2 _ hW) (fun z14 s13 hr => ?_)
              obtain ⟨s13v, z14r, hW⟩ := hr
              refine pq_cSI (pc' := 83) rfl rfl rfl rfl rfl (c_gcd6 L ys d s13 s13v z12 z12r z14 z14r _ hW) (fun z16 s15 hr => ?_)
              obtain ⟨s15v, z16r, hW⟩ := hr
              refine pq_l (pc' := 85) rfl rfl rfl rfl rfl ?_
              refine pq_k (pc' := 88) (v := (4, 6)) rfl rfl rfl (fun _ => rfl) ?_
              refine pq_l (pc' := 90) rfl rfl rfl rfl rfl ?_
              refine pq_k (pc' := 91) (v := (0, 1)) rfl rfl rfl (fun _ => rfl) ?_
              refine pq_sub (pc' := 92) rfl rfl ?_
              refine pq_pra (pc' := 93) rfl rfl (fun z17 z17p => ?_)
              have z17r := prz_i z17p
              have hW := hW z17 z17p
              refine pq_i2l (pc' := 94) rfl rfl z17r ?_
              refine pq_k (pc' := 97) (v := (4, 6)) rfl rfl rfl (fun _ => rfl) ?_
              refine pq_l (pc' := 99) rfl rfl rfl rfl rfl ?_
              refine pq_pra (pc' := 100) rfl rfl (fun z18 z18p => ?_)
              have z18r := prz_i z18p
              have hW := hW z18 z18p
              refine pq_i2l (pc' := 101) rfl rfl z18r ?_
              refine pq_cVV (pc' := 104) rfl rfl rfl rfl rfl (c_rebuild2 L ys d s15 s15v z16 z16r z7 z7r z17 (iR_l z17r) z18 (iR_l z18r) _ hW) (fun s19 hr => ?_)
              obtain ⟨s19v, hW⟩ := hr
              refine pq_l (pc' := 105) rfl rfl rfl rfl rfl ?_
              refine pq_l (pc' := 106) rfl rfl rfl rfl rfl ?_
              refine pq_l (pc' := 107) rfl rfl rfl rfl rfl ?_
              refine pq_gr (pc' := 110) (c := 253) (v := 253) rfl rfl rfl rfl rfl rfl s19v ?_
              refine pq_cVI (pc' := 113) rfl rfl rfl rfl rfl (c_divide2 L ys d s19 s19v l1 253 _ hW) (fun z22 s21 hr => ?_)
              obtain ⟨s21v, z22r, hW⟩ := hr
              refine pq_z_eq (pt := 140) (pc' := 116) rfl rfl rfl (fun c23 => ?_) (fun c23 => ?_)
              · have hW := hW.1 c23
                refine pq_w [(0, (2, ((247 : Nat) : Int))), (1, (2, ((l1 : Nat) : Int))), (2, (2, ((l2 : Nat) : Int))), (4, (0, l4)), (5, (0, z7))] ⟨rfl, rfl, rfl, rfl, rfl, trivial⟩ ?_
                exact J140 N30 (by omega) l4 l4r z7 z7r s21 s21v hW
              · have hW := hW.2 c23
                refine pq_l (pc' := 117) rfl rfl rfl rfl rfl ?_
                refine pq_l (pc' := 118) rfl rfl rfl rfl rfl ?_
                refine pq_l (pc' := 119) rfl rfl rfl rfl rfl ?_
                refine pq_gr (pc' := 122) (c := 253) (v := 253) rfl rfl rfl rfl rfl rfl s21v ?_
                refine pq_cVI (pc' := 125) rfl rfl rfl rfl rfl (c_divide2 L ys d s21 s21v l2 253 _ hW) (fun z25 s24 hr => ?_)
                obtain ⟨s24v, z25r, hW⟩ := hr
                refine pq_z_eq (pt := 140) (pc' := 128) rfl rfl rfl (fun c26 => ?_) (fun c26 => ?_)
                · have hW := hW.1 c26
                  refine pq_w [(0, (2, ((247 : Nat) : Int))), (1, (2, ((l1 : Nat) : Int))), (2, (2, ((l2 : Nat) : Int))), (4, (0, l4)), (5, (0, z7))] ⟨rfl, rfl, rfl, rfl, rfl, trivial⟩ ?_
                  exact J140 N30 (by omega) l4 l4r z7 z7r s24 s24v hW
                · have hW := hW.2 c26
                  refine pq_l (pc' := 129) rfl rfl rfl rfl rfl ?_
                  refine pq_gr (pc' := 132) (c := 255) (v := 255) rfl rfl rfl rfl rfl rfl s24v ?_
                  refine pq_l (pc' := 133) rfl rfl rfl rfl rfl ?_
                  refine pq_gr (pc' := 136) (c := 253) (v := 253) rfl rfl rfl rfl rfl rfl s24v ?_
                  refine pq_cVV (pc' := 139) rfl rfl rfl rfl rfl (c_copy6 L ys d s24 s24v 255 253 _ hW) (fun s27 hr => ?_)
                  obtain ⟨s27v, hW⟩ := hr
                  exact pq_vret rfl ⟨rfl, s27v, hW⟩
        · have hW := hW.2 c8
          exact pq_vret rfl ⟨rfl, s6v, hW⟩
  have J24 : ∀ N24 : Nat, N24 ≤ N → ∀ (s : im_S) (hv : jI s), C_find2_24 s Q → pq L ys d N24 rm_p_X2_find (24, [], [], s) (fun r : im_Re => r.1 = none ∧ (jI r.2 ∧ Q r.2)) := by
    intro N24 hN24 s hv hW
    unfold C_find2_24 at hW
    exact pq_vret rfl ⟨rfl, hv, hW⟩
  unfold C_find2 at hW
  refine pq_l (pc' := 1) rfl rfl rfl rfl rfl ?_
  refine pq_gr (pc' := 4) (c := 255) (v := 255) rfl rfl rfl rfl rfl rfl hv ?_
  refine pq_k (pc' := 5) (v := (1, 1)) rfl rfl rfl (fun _ => rfl) ?_
  refine pq_cVV (pc' := 8) rfl rfl rfl rfl rfl (c_setConstant6 L ys d s hv 255 1 (⟨by decide, by decide⟩ : lR 1) _ hW) (fun s29 hr => ?_)
  obtain ⟨s29v, hW⟩ := hr
  refine pq_l (pc' := 9) rfl rfl rfl rfl rfl ?_
  refine pq_gi (pc' := 12) rfl rfl rfl rfl rfl (fun r31 => ?_)
  refine pq_k (pc' := 13) (v := (0, 1)) rfl rfl rfl (fun _ => rfl) ?_
  refine pq_c_lt (pt := 24) (pc' := 16) rfl rfl rfl (fun c32 => ?_) (fun c32 => ?_)
  · have hW := hW.1 c32
    refine pq_w [] trivial ?_
    exact J24 N (by omega) s29 s29v hW
  · have hW := hW.2 c32
    refine pq_l (pc' := 17) rfl rfl rfl rfl rfl ?_
    refine pq_gi (pc' := 20) rfl rfl rfl rfl rfl (fun r33 => ?_)
    refine pq_k (pc' := 21) (v := (0, 1)) rfl rfl rfl (fun _ => rfl) ?_
    refine pq_c_ge (pt := 25) (pc' := 24) rfl rfl rfl (fun c34 => ?_) (fun c34 => ?_)
    · have hW := hW.1 c34
      refine pq_k (pc' := 26) (v := (0, (-1))) rfl rfl rfl (fun _ => rfl) ?_
      refine pq_s (pc' := 27) rfl rfl rfl rfl rfl ?_
      refine pq_k (pc' := 28) (v := (0, 0)) rfl rfl rfl (fun _ => rfl) ?_
      refine pq_s (pc' := 30) rfl rfl rfl rfl rfl ?_
      refine pq_w [(0, (2, ((247 : Nat) : Int))), (1, (2, ((l1 : Nat) : Int))), (2, (2, ((l2 : Nat) : Int))), (3, (0, (-1))), (4, (0, 0))] ⟨rfl, rfl, rfl, rfl, rfl, trivial⟩ ?_
      obtain ⟨I9, hI9, hB9⟩ := hW
      exact J30 l1 l2 I9 hB9 N (by omega) (-1) (⟨by decide, by decide⟩ : iR (-1)) 0 (⟨by decide, by decide⟩ : iR 0) s29 s29v hI9
    · have hW := hW.2 c34
      refine pq_w [] trivial ?_
      exact J24 N (by omega) s29 s29v hW
