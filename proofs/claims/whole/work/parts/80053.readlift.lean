/-! READ BY VALUE, lifted by program -/
def C_read7v_64 (s : im_S) (Q : Int → im_S → Prop) : Prop := (Q (cgf s 2 4) s)
def C_read7v (l1 : Int) (s : im_S) (Q : Int → im_S → Prop) : Prop := (C_J9_min_7cf53 l1 (gln 3) s (fun z3 s2 => (∀ s4, s4 = cpf s2 2 1 z3 → (∀ s5, s5 = cpf s4 2 2 0 → (∀ s6, s6 = cpf s5 2 4 0 → (∀ s7, s7 = cpf s6 2 5 (-2) → (∀ s8, s8 = cpf s7 2 11 0 → (∀ s9, s9 = cpf s8 2 13 0 → (C_look7v s9 (fun s10 => (CV_readText 0 s10 (fun s12 => (((cgf s12 2 3) = 0 → (C_read7v_64 s12 Q)) ∧ (¬ ((cgf s12 2 3) = 0) → (C_fail7 2 (cgf s12 2 2) s12 (fun s17 => (C_read7v_64 s17 Q)))))))))))))))))
set_option maxRecDepth 16384 in
theorem c_read7v (L : Nat) (ys : Nat → Int32) (d : Nat) (s : im_S) (hv : jI s) (l1 : Int) (l1r : iR l1) (Q : Int → im_S → Prop) (hW : C_read7v l1 s Q) : pcI L ys 0 d 191 [(2, ((2 : Nat) : Int)), (0, l1)] s (fun z9 s9 => jI s9 ∧ iR z9 ∧ Q z9 s9) := by
  intro res hres
  refine pq_start (M := rm_p_X7_read) (Q := (fun r : im_Re => ∃ z, r.1 = some (0, z) ∧ (jI r.2 ∧ iR z ∧ Q z r.2))) om_X7_read (fun d N => ?_) res hres
  refine pq_w [(0, (2, ((2 : Nat) : Int))), (1, (0, l1))] ⟨rfl, rfl, trivial⟩ ?_
  have J64 : ∀ N64 : Nat, N64 ≤ N → ∀ (s : im_S) (hv : jI s), C_read7v_64 s Q → pq L ys d N64 rm_p_X7_read (64, [(0, (2, ((2 : Nat) : Int)))], [], s) (fun r : im_Re => ∃ z, r.1 = some (0, z) ∧ (jI r.2 ∧ iR z ∧ Q z r.2)) := by
    intro N64 hN64 s hv hW
    unfold C_read7v_64 at hW
    refine pq_l (pc' := 65) rfl rfl rfl rfl rfl ?_
    refine pq_gi (pc' := 68) rfl rfl rfl rfl rfl (fun r1 => ?_)
    exact pq_iret rfl ⟨_, rfl, hv, r1, hW⟩
  unfold C_read7v at hW
  refine pq_l (pc' := 1) rfl rfl rfl rfl rfl ?_
  refine pq_l (pc' := 2) rfl rfl rfl rfl rfl ?_
  refine pq_l (pc' := 3) rfl rfl rfl rfl rfl ?_
  refine pq_gr (pc' := 6) (c := 3) (v := 3) rfl rfl rfl rfl rfl rfl hv ?_
  refine pq_alen (pc' := 7) rfl rfl ?_
  refine pq_cSI (pc' := 10) rfl rfl rfl rfl rfl (c_J9_min_7cf53 L ys d s hv l1 l1r (gln 3) (gln_r _) _ hW) (fun z3 s2 hr => ?_)
  obtain ⟨s2v, z3r, hW⟩ := hr
  refine pq_pX (pc' := 13) rfl rfl rfl rfl (fun e => absurd e (by decide)) (fun e => absurd e (by decide)) s2v (fun s4 s4e s4v => ?_)
  have hW := hW s4 s4e
  refine pq_l (pc' := 14) rfl rfl rfl rfl rfl ?_
  refine pq_k (pc' := 15) (v := (0, 0)) rfl rfl rfl (fun _ => rfl) ?_
  refine pq_pX (pc' := 18) rfl rfl rfl rfl (fun e => absurd e (by decide)) (fun e => absurd e (by decide)) s4v (fun s5 s5e s5v => ?_)
  have hW := hW s5 s5e
  refine pq_l (pc' := 19) rfl rfl rfl rfl rfl ?_
  refine pq_k (pc' := 20) (v := (0, 0)) rfl rfl rfl (fun _ => rfl) ?_
  refine pq_pX (pc' := 23) rfl rfl rfl rfl (fun e => absurd e (by decide)) (fun e => absurd e (by decide)) s5v (fun s6 s6e s6v => ?_)
  have hW := hW s6 s6e
  refine pq_l (pc' := 24) rfl rfl rfl rfl rfl ?_
  refine pq_k (pc' := 26) (v := (0, (-2))) rfl rfl rfl (fun _ => rfl) ?_
  refine pq_pX (pc' := 29) rfl rfl rfl rfl (fun e => absurd e (by decide)) (fun e => absurd e (by decide)) s6v (fun s7 s7e s7v => ?_)
  have hW := hW s7 s7e
  refine pq_l (pc' := 30) rfl rfl rfl rfl rfl ?_
  refine pq_k (pc' := 31) (v := (0, 0)) rfl rfl rfl (fun _ => rfl) ?_
  refine pq_pX (pc' := 34) rfl rfl rfl rfl (fun e => absurd e (by decide)) (fun e => absurd e (by decide)) s7v (fun s8 s8e s8v => ?_)
  have hW := hW s8 s8e
  refine pq_l (pc' := 35) rfl rfl rfl rfl rfl ?_
  refine pq_k (pc' := 36) (v := (0, 0)) rfl rfl rfl (fun _ => rfl) ?_
  refine pq_pX (pc' := 39) rfl rfl rfl rfl (fun e => absurd e (by decide)) (fun e => absurd e (by decide)) s8v (fun s9 s9e s9v => ?_)
  have hW := hW s9 s9e
  refine pq_l (pc' := 40) rfl rfl rfl rfl rfl ?_
  refine pq_cVV (pc' := 43) rfl rfl rfl rfl rfl (c_look7v L ys d s9 s9v  _ hW) (fun s10 hr => ?_)
  obtain ⟨s10v, hW⟩ := hr
  refine pq_l (pc' := 44) rfl rfl rfl rfl rfl ?_
  refine pq_k (pc' := 45) (v := (0, 0)) rfl rfl rfl (fun _ => rfl) ?_
  refine pq_cVV (pc' := 48) rfl rfl rfl rfl rfl ((RV_all L ys d).1 s10 s10v 0 (⟨by decide, by decide⟩ : iR 0) _ hW) (fun s12 hr => ?_)
  obtain ⟨s12v, hW⟩ := hr
  refine pq_l (pc' := 49) rfl rfl rfl rfl rfl ?_
  refine pq_gi (pc' := 52) rfl rfl rfl rfl rfl (fun r14 => ?_)
  refine pq_z_eq (pt := 64) (pc' := 55) rfl rfl rfl (fun c15 => ?_) (fun c15 => ?_)
  · have hW := hW.1 c15
    refine pq_w [(0, (2, ((2 : Nat) : Int)))] ⟨rfl, trivial⟩ ?_
    exact J64 N (by omega) s12 s12v hW
  · have hW := hW.2 c15
    refine pq_l (pc' := 56) rfl rfl rfl rfl rfl ?_
    refine pq_k (pc' := 57) (v := (0, 2)) rfl rfl rfl (fun _ => rfl) ?_
    refine pq_l (pc' := 58) rfl rfl rfl rfl rfl ?_
    refine pq_gi (pc' := 61) rfl rfl rfl rfl rfl (fun r16 => ?_)
    refine pq_cVV (pc' := 64) rfl rfl rfl rfl rfl (c_fail7 L ys d s12 s12v 2 (⟨by decide, by decide⟩ : iR 2) (cgf s12 2 2) r16 _ hW) (fun s17 hr => ?_)
    obtain ⟨s17v, hW⟩ := hr
    refine pq_w [(0, (2, ((2 : Nat) : Int)))] ⟨rfl, trivial⟩ ?_
    exact J64 N (by omega) s17 s17v hW
