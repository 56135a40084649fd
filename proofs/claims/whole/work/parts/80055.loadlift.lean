/-! LOAD BY VALUE, lifted by program -/
def C_load9w_164 (K164 : Int × im_S → Prop) (l3 : Int) (s : im_S) (Q : Int → im_S → Prop) : Prop := (((cgf s 83 3) ≤ l3 → (C_fillCells4 s (fun s3 => (Q (cgf s3 0 1) s3)))) ∧ (¬ ((cgf s 83 3) ≤ l3) → (C_insert4 l3 s (fun s6 => (K164 ((w32 (l3 + 1)), s6))))))
def C_load9w_135 (K135 : Int × im_S → Prop) (l2 : Int) (l3 : Int) (s : im_S) (Q : Int → im_S → Prop) : Prop := ((l2 ≤ l3 → (∀ s10, s10 = cpf s 1 4 0 → (ploop (fun (K : Int × im_S → Prop) (a : Int × im_S) => C_load9w_164 K a.1 a.2 Q) (0, s10)))) ∧ (¬ (l2 ≤ l3) → (C_solve3 l3 s (fun s11 => (K135 ((w32 (l3 + 1)), s11))))))
def C_load9w_83 (K83 : Int × im_S → Prop) (l2 : Int) (s : im_S) (Q : Int → im_S → Prop) : Prop := (((cgf s 2 11) ≤ l2 → (∀ s16, s16 = cpf s 83 3 0 → (ploop (fun (K : Int × im_S → Prop) (a : Int × im_S) => C_load9w_135 K (cgf s16 84 2) a.1 a.2 Q) (0, s16)))) ∧ (¬ ((cgf s 2 11) ≤ l2) → (C_addAtom0 (61 + 2 * (l2).toNat) l2 s (fun s19 => (K83 ((w32 (l2 + 1)), s19))))))
def C_load9w (s : im_S) (Q : Int → im_S → Prop) : Prop := (∀ s23, s23 = cpf s 0 0 0 → (C_read7w (cgf s 0 0) s23 (fun z25 s24 => (∀ s26, s26 = cpf s24 0 1 z25 → (∀ v228 : Int, v228 = (if ¬ ((cgf s26 0 1) = 0) then (cgf s26 2 5) else (-2)) → (∀ s230, s230 = cpf s26 0 2 v228 → (∀ v432 : Int, v432 = (if ¬ ((cgf s230 0 1) = 0) then 0 else 1) → (∀ s434, s434 = cpf s230 0 3 v432 → ((¬ ((cgf s434 0 3) = 0) → (∀ s437, s437 = cpf s434 84 2 0 → (ploop (fun (K : Int × im_S → Prop) (a : Int × im_S) => C_load9w_83 K a.1 a.2 Q) (0, s437)))) ∧ ((cgf s434 0 3) = 0 → (Q (cgf s434 0 1) s434)))))))))))
set_option maxRecDepth 16384 in
theorem c_load9w (L : Nat) (ys : Nat → Int32) (d : Nat) (s : im_S) (hv : jI s) (Q : Int → im_S → Prop) (hW : C_load9w s Q) : pcI L ys 0 d 220 [(2, ((0 : Nat) : Int))] s (fun z9 s9 => jI s9 ∧ iR z9 ∧ Q z9 s9) := by
  intro res hres
  refine pq_start (M := rm_p_X9_load) (Q := (fun r : im_Re => ∃ z, r.1 = some (0, z) ∧ (jI r.2 ∧ iR z ∧ Q z r.2))) om_X9_load (fun d N => ?_) res hres
  refine pq_w [(0, (2, ((0 : Nat) : Int)))] ⟨rfl, trivial⟩ ?_
  have J164 : ∀ (I164 : Int × im_S → Prop) (hB164 : ∀ a : Int × im_S, I164 a → C_load9w_164 I164 a.1 a.2 Q), ∀ N164 : Nat, N164 ≤ N → ∀ (l3 : Int) (l3r : iR l3) (s : im_S) (hv : jI s), I164 (l3, s) → pq L ys d N164 rm_p_X9_load (164, [(0, (2, ((0 : Nat) : Int))), (3, (0, l3))], [], s) (fun r : im_Re => ∃ z, r.1 = some (0, z) ∧ (jI r.2 ∧ iR z ∧ Q z r.2)) := by
    intro I164 hB164 N164
    induction N164 using Nat.strongRecOn with
    | _ N164 ih164 =>
      intro hN164 l3 l3r s hv hI
      have hW : C_load9w_164 I164 l3 s Q := hB164 (l3, s) hI
      unfold C_load9w_164 at hW
      refine pq_l (pc' := 165) rfl rfl rfl rfl rfl ?_
      refine pq_l (pc' := 166) rfl rfl rfl rfl rfl ?_
      refine pq_gr (pc' := 169) (c := 83) (v := 83) rfl rfl rfl rfl rfl rfl hv ?_
      refine pq_gi (pc' := 172) rfl rfl rfl rfl rfl (fun r1 => ?_)
      refine pq_c_ge (pt := 189) (pc' := 175) rfl rfl rfl (fun c2 => ?_) (fun c2 => ?_)
      · have hW := hW.1 c2
        refine pq_l (pc' := 190) rfl rfl rfl rfl rfl ?_
        refine pq_gr (pc' := 193) (c := 1) (v := 1) rfl rfl rfl rfl rfl rfl hv ?_
        refine pq_cVV (pc' := 196) rfl rfl rfl rfl rfl (c_fillCells4 L ys d s hv  _ hW) (fun s3 hr => ?_)
        obtain ⟨s3v, hW⟩ := hr
        refine pq_l (pc' := 197) rfl rfl rfl rfl rfl ?_
        refine pq_gi (pc' := 200) rfl rfl rfl rfl rfl (fun r5 => ?_)
        exact pq_iret rfl ⟨_, rfl, s3v, r5, hW⟩
      · have hW := hW.2 c2
        refine pq_l (pc' := 176) rfl rfl rfl rfl rfl ?_
        refine pq_gr (pc' := 179) (c := 1) (v := 1) rfl rfl rfl rfl rfl rfl hv ?_
        refine pq_l (pc' := 180) rfl rfl rfl rfl rfl ?_
        refine pq_cVV (pc' := 183) rfl rfl rfl rfl rfl (c_insert4 L ys d s hv l3 l3r _ hW) (fun s6 hr => ?_)
        obtain ⟨s6v, hW⟩ := hr
        refine pq_inc (pc' := 186) rfl rfl rfl rfl ?_
        refine pq_gotoT (pc' := 164) rfl rfl (fun m8 m8l => ?_)
        refine pq_w [(0, (2, ((0 : Nat) : Int))), (3, (0, (w32 (l3 + 1))))] ⟨rfl, rfl, trivial⟩ ?_
        exact ih164 m8 (by omega) (by omega) (w32 (l3 + 1)) (w32_r _) s6 s6v hW
  have J135 : ∀ (l2 : Int) (l2r : iR l2) (I135 : Int × im_S → Prop) (hB135 : ∀ a : Int × im_S, I135 a → C_load9w_135 I135 l2 a.1 a.2 Q), ∀ N135 : Nat, N135 ≤ N → ∀ (l3 : Int) (l3r : iR l3) (s : im_S) (hv : jI s), I135 (l3, s) → pq L ys d N135 rm_p_X9_load (135, [(0, (2, ((0 : Nat) : Int))), (2, (0, l2)), (3, (0, l3))], [], s) (fun r : im_Re => ∃ z, r.1 = some (0, z) ∧ (jI r.2 ∧ iR z ∧ Q z r.2)) := by
    intro l2 l2r I135 hB135 N135
    induction N135 using Nat.strongRecOn with
    | _ N135 ih135 =>
      intro hN135 l3 l3r s hv hI
      have hW : C_load9w_135 I135 l2 l3 s Q := hB135 (l3, s) hI
      unfold C_load9w_135 at hW
      refine pq_l (pc' := 136) rfl rfl rfl rfl rfl ?_
      refine pq_l (pc' := 137) rfl rfl rfl rfl rfl ?_
      refine pq_c_ge (pt := 154) (pc' := 140) rfl rfl rfl (fun c9 => ?_) (fun c9 => ?_)
      · have hW := hW.1 c9
        refine pq_l (pc' := 155) rfl rfl rfl rfl rfl ?_
        refine pq_gr (pc' := 158) (c := 1) (v := 1) rfl rfl rfl rfl rfl rfl hv ?_
        refine pq_k (pc' := 159) (v := (0, 0)) rfl rfl rfl (fun _ => rfl) ?_
        refine pq_pX (pc' := 162) rfl rfl rfl rfl (fun e => absurd e (by decide)) (fun e => absurd e (by decide)) hv (fun s10 s10e s10v => ?_)
        have hW := hW s10 s10e
        refine pq_k (pc' := 163) (v := (0, 0)) rfl rfl rfl (fun _ => rfl) ?_
        refine pq_s (pc' := 164) rfl rfl rfl rfl rfl ?_
        refine pq_w [(0, (2, ((0 : Nat) : Int))), (3, (0, 0))] ⟨rfl, rfl, trivial⟩ ?_
        obtain ⟨I9, hI9, hB9⟩ := hW
        exact J164 I9 hB9 N135 (by omega) 0 (⟨by decide, by decide⟩ : iR 0) s10 s10v hI9
      · have hW := hW.2 c9
        refine pq_l (pc' := 141) rfl rfl rfl rfl rfl ?_
        refine pq_gr (pc' := 144) (c := 83) (v := 83) rfl rfl rfl rfl rfl rfl hv ?_
        refine pq_l (pc' := 145) rfl rfl rfl rfl rfl ?_
        refine pq_cVV (pc' := 148) rfl rfl rfl rfl rfl (c_solve3 L ys d s hv l3 l3r _ hW) (fun s11 hr => ?_)
        obtain ⟨s11v, hW⟩ := hr
        refine pq_inc (pc' := 151) rfl rfl rfl rfl ?_
        refine pq_gotoT (pc' := 135) rfl rfl (fun m13 m13l => ?_)
        refine pq_w [(0, (2, ((0 : Nat) : Int))), (2, (0, l2)), (3, (0, (w32 (l3 + 1))))] ⟨rfl, rfl, rfl, trivial⟩ ?_
        exact ih135 m13 (by omega) (by omega) (w32 (l3 + 1)) (w32_r _) s11 s11v hW
  have J83 : ∀ (I83 : Int × im_S → Prop) (hB83 : ∀ a : Int × im_S, I83 a → C_load9w_83 I83 a.1 a.2 Q), ∀ N83 : Nat, N83 ≤ N → ∀ (l2 : Int) (l2r : iR l2) (s : im_S) (hv : jI s), I83 (l2, s) → pq L ys d N83 rm_p_X9_load (83, [(0, (2, ((0 : Nat) : Int))), (2, (0, l2))], [], s) (fun r : im_Re => ∃ z, r.1 = some (0, z) ∧ (jI r.2 ∧ iR z ∧ Q z r.2)) := by
    intro I83 hB83 N83
    induction N83 using Nat.strongRecOn with
    | _ N83 ih83 =>
      intro hN83 l2 l2r s hv hI
      have hW : C_load9w_83 I83 l2 s Q := hB83 (l2, s) hI
      unfold C_load9w_83 at hW
      refine pq_l (pc' := 84) rfl rfl rfl rfl rfl ?_
      refine pq_l (pc' := 85) rfl rfl rfl rfl rfl ?_
      refine pq_gr (pc' := 88) (c := 2) (v := 2) rfl rfl rfl rfl rfl rfl hv ?_
      refine pq_gi (pc' := 91) rfl rfl rfl rfl rfl (fun r14 => ?_)
      refine pq_c_ge (pt := 117) (pc' := 94) rfl rfl rfl (fun c15 => ?_) (fun c15 => ?_)
      · have hW := hW.1 c15
        refine pq_l (pc' := 118) rfl rfl rfl rfl rfl ?_
        refine pq_gr (pc' := 121) (c := 83) (v := 83) rfl rfl rfl rfl rfl rfl hv ?_
        refine pq_k (pc' := 122) (v := (0, 0)) rfl rfl rfl (fun _ => rfl) ?_
        refine pq_pX (pc' := 125) rfl rfl rfl rfl (fun _ => Or.inl (by decide)) (fun e => absurd e (by decide)) hv (fun s16 s16e s16v => ?_)
        have hW := hW s16 s16e
        refine pq_l (pc' := 126) rfl rfl rfl rfl rfl ?_
        refine pq_gr (pc' := 129) (c := 84) (v := 84) rfl rfl rfl rfl rfl rfl s16v ?_
        refine pq_gi (pc' := 132) rfl rfl rfl rfl rfl (fun r17 => ?_)
        refine pq_s (pc' := 133) rfl rfl rfl rfl rfl ?_
        refine pq_k (pc' := 134) (v := (0, 0)) rfl rfl rfl (fun _ => rfl) ?_
        refine pq_s (pc' := 135) rfl rfl rfl rfl rfl ?_
        refine pq_w [(0, (2, ((0 : Nat) : Int))), (2, (0, (cgf s16 84 2))), (3, (0, 0))] ⟨rfl, rfl, rfl, trivial⟩ ?_
        obtain ⟨I9, hI9, hB9⟩ := hW
        exact J135 (cgf s16 84 2) r17 I9 hB9 N83 (by omega) 0 (⟨by decide, by decide⟩ : iR 0) s16 s16v hI9
      · have hW := hW.2 c15
        refine pq_l (pc' := 95) rfl rfl rfl rfl rfl ?_
        refine pq_gr (pc' := 98) (c := 84) (v := 84) rfl rfl rfl rfl rfl rfl hv ?_
        refine pq_l (pc' := 99) rfl rfl rfl rfl rfl ?_
        refine pq_gr (pc' := 102) (c := 2) (v := 2) rfl rfl rfl rfl rfl rfl hv ?_
        refine pq_gr (pc' := 105) (c := 60) (v := 60) rfl rfl rfl rfl rfl rfl hv ?_
        refine pq_l (pc' := 106) rfl rfl rfl rfl rfl ?_
        refine pq_aa (pc' := 107) (b := 61) (k := 2) (n := 10) (m := 10) rfl rfl rfl rfl rfl hv (fun r18a r18b => ?_)
        refine pq_l (pc' := 108) rfl rfl rfl rfl rfl ?_
        refine pq_cVV (pc' := 111) rfl rfl rfl rfl rfl (c_addAtom0 L ys d s hv (61 + 2 * (l2).toNat) l2 l2r _ hW) (fun s19 hr => ?_)
        obtain ⟨s19v, hW⟩ := hr
        refine pq_inc (pc' := 114) rfl rfl rfl rfl ?_
        refine pq_gotoT (pc' := 83) rfl rfl (fun m21 m21l => ?_)
        refine pq_w [(0, (2, ((0 : Nat) : Int))), (2, (0, (w32 (l2 + 1))))] ⟨rfl, rfl, trivial⟩ ?_
        exact ih83 m21 (by omega) (by omega) (w32 (l2 + 1)) (w32_r _) s19 s19v hW
  unfold C_load9w at hW
  refine pq_l (pc' := 1) rfl rfl rfl rfl rfl ?_
  refine pq_gi (pc' := 4) rfl rfl rfl rfl rfl (fun r22 => ?_)
  refine pq_s (pc' := 5) rfl rfl rfl rfl rfl ?_
  refine pq_l (pc' := 6) rfl rfl rfl rfl rfl ?_
  refine pq_k (pc' := 7) (v := (0, 0)) rfl rfl rfl (fun _ => rfl) ?_
  refine pq_pX (pc' := 10) rfl rfl rfl rfl (fun e => absurd e (by decide)) (fun e => absurd e (by decide)) hv (fun s23 s23e s23v => ?_)
  have hW := hW s23 s23e
  refine pq_l (pc' := 11) rfl rfl rfl rfl rfl ?_
  refine pq_l (pc' := 12) rfl rfl rfl rfl rfl ?_
  refine pq_gr (pc' := 15) (c := 2) (v := 2) rfl rfl rfl rfl rfl rfl s23v ?_
  refine pq_l (pc' := 16) rfl rfl rfl rfl rfl ?_
  refine pq_cVI (pc' := 19) rfl rfl rfl rfl rfl (c_read7w L ys d s23 s23v (cgf s 0 0) r22 _ hW) (fun z25 s24 hr => ?_)
  obtain ⟨s24v, z25r, hW⟩ := hr
  refine pq_pX (pc' := 22) rfl rfl rfl rfl (fun e => absurd e (by decide)) (fun e => absurd e (by decide)) s24v (fun s26 s26e s26v => ?_)
  have hW := hW s26 s26e
  refine pq_l (pc' := 23) rfl rfl rfl rfl rfl ?_
  refine pq_l (pc' := 24) rfl rfl rfl rfl rfl ?_
  refine pq_gi (pc' := 27) rfl rfl rfl rfl rfl (fun r27 => ?_)
  have J229 : ∀ v228 : Int, iR v228 → ((∀ s230, s230 = cpf s26 0 2 v228 → (∀ v432 : Int, v432 = (if ¬ ((cgf s230 0 1) = 0) then 0 else 1) → (∀ s434, s434 = cpf s230 0 3 v432 → ((¬ ((cgf s434 0 3) = 0) → (∀ s437, s437 = cpf s434 84 2 0 → (ploop (fun (K : Int × im_S → Prop) (a : Int × im_S) => C_load9w_83 K a.1 a.2 Q) (0, s437)))) ∧ ((cgf s434 0 3) = 0 → (Q (cgf s434 0 1) s434))))))) → pq L ys d N rm_p_X9_load (42, [(0, (2, ((0 : Nat) : Int)))], [(0, v228), (2, ((0 : Nat) : Int))], s26) (fun r : im_Re => ∃ z, r.1 = some (0, z) ∧ (jI r.2 ∧ iR z ∧ Q z r.2)) := by
    intro v228 v228r hW
    refine pq_pX (pc' := 45) rfl rfl rfl rfl (fun e => absurd e (by decide)) (fun e => absurd e (by decide)) s26v (fun s230 s230e s230v => ?_)
    have hW := hW s230 s230e
    refine pq_l (pc' := 46) rfl rfl rfl rfl rfl ?_
    refine pq_l (pc' := 47) rfl rfl rfl rfl rfl ?_
    refine pq_gi (pc' := 50) rfl rfl rfl rfl rfl (fun r231 => ?_)
    have J433 : ∀ v432 : Int, iR v432 → ((∀ s434, s434 = cpf s230 0 3 v432 → ((¬ ((cgf s434 0 3) = 0) → (∀ s437, s437 = cpf s434 84 2 0 → (ploop (fun (K : Int × im_S → Prop) (a : Int × im_S) => C_load9w_83 K a.1 a.2 Q) (0, s437)))) ∧ ((cgf s434 0 3) = 0 → (Q (cgf s434 0 1) s434))))) → pq L ys d N rm_p_X9_load (58, [(0, (2, ((0 : Nat) : Int)))], [(0, v432), (2, ((0 : Nat) : Int))], s230) (fun r : im_Re => ∃ z, r.1 = some (0, z) ∧ (jI r.2 ∧ iR z ∧ Q z r.2)) := by
      intro v432 v432r hW
      refine pq_pX (pc' := 61) rfl rfl rfl rfl (fun e => absurd e (by decide)) (fun e => absurd e (by decide)) s230v (fun s434 s434e s434v => ?_)
      have hW := hW s434 s434e
      refine pq_l (pc' := 62) rfl rfl rfl rfl rfl ?_
      refine pq_gi (pc' := 65) rfl rfl rfl rfl rfl (fun r435 => ?_)
      refine pq_z_ne (pt := 73) (pc' := 68) rfl rfl rfl (fun c436 => ?_) (fun c436 => ?_)
      · have hW := hW.1 c436
        refine pq_l (pc' := 74) rfl rfl rfl rfl rfl ?_
        refine pq_gr (pc' := 77) (c := 84) (v := 84) rfl rfl rfl rfl rfl rfl s434v ?_
        refine pq_k (pc' := 78) (v := (0, 0)) rfl rfl rfl (fun _ => rfl) ?_
        refine pq_pX (pc' := 81) rfl rfl rfl rfl (fun e => absurd e (by decide)) (fun e => absurd e (by decide)) s434v (fun s437 s437e s437v => ?_)
        have hW := hW s437 s437e
        refine pq_k (pc' := 82) (v := (0, 0)) rfl rfl rfl (fun _ => rfl) ?_
        refine pq_s (pc' := 83) rfl rfl rfl rfl rfl ?_
        refine pq_w [(0, (2, ((0 : Nat) : Int))), (2, (0, 0))] ⟨rfl, rfl, trivial⟩ ?_
        obtain ⟨I9, hI9, hB9⟩ := hW
        exact J83 I9 hB9 N (by omega) 0 (⟨by decide, by decide⟩ : iR 0) s437 s437v hI9
      · have hW := hW.2 c436
        refine pq_l (pc' := 69) rfl rfl rfl rfl rfl ?_
        refine pq_gi (pc' := 72) rfl rfl rfl rfl rfl (fun r438 => ?_)
        exact pq_iret rfl ⟨_, rfl, s434v, r438, hW⟩
    refine pq_z_ne (pt := 57) (pc' := 53) rfl rfl rfl (fun c232 => ?_) (fun c232 => ?_)
    · refine pq_k (pc' := 58) (v := (0, 0)) rfl rfl rfl (fun _ => rfl) ?_
      refine pq_w [(0, (2, ((0 : Nat) : Int)))] ⟨rfl, trivial⟩ ?_
      exact J433 0 (⟨by decide, by decide⟩ : iR 0) (hW _ (by rw [if_pos c232]))
    · refine pq_k (pc' := 54) (v := (0, 1)) rfl rfl rfl (fun _ => rfl) ?_
      refine pq_goto (pc' := 58) rfl rfl ?_
      refine pq_w [(0, (2, ((0 : Nat) : Int)))] ⟨rfl, trivial⟩ ?_
      exact J433 1 (⟨by decide, by decide⟩ : iR 1) (hW _ (by rw [if_neg (by omega)]))
  refine pq_z_ne (pt := 35) (pc' := 30) rfl rfl rfl (fun c28 => ?_) (fun c28 => ?_)
  · refine pq_l (pc' := 36) rfl rfl rfl rfl rfl ?_
    refine pq_gr (pc' := 39) (c := 2) (v := 2) rfl rfl rfl rfl rfl rfl s26v ?_
    refine pq_gi (pc' := 42) rfl rfl rfl rfl rfl (fun r29 => ?_)
    refine pq_w [(0, (2, ((0 : Nat) : Int)))] ⟨rfl, trivial⟩ ?_
    exact J229 (cgf s26 2 5) r29 (hW _ (by rw [if_pos c28]))
  · refine pq_k (pc' := 32) (v := (0, (-2))) rfl rfl rfl (fun _ => rfl) ?_
    refine pq_goto (pc' := 42) rfl rfl ?_
    refine pq_w [(0, (2, ((0 : Nat) : Int)))] ⟨rfl, trivial⟩ ?_
    exact J229 (-2) (⟨by decide, by decide⟩ : iR (-2)) (hW _ (by rw [if_neg (by omega)]))
