/-! READ AND LOAD OF THE CLASS, with the program -/
def RDz (tx : Nat → Int) (n : Nat) (R : ou atz) : Prop := ∃ q, adv tx n 0 q ∧ ((∃ e, q = .inl e ∧ R = .inl e) ∨ ∃ j r4, q = .inr (j, ()) ∧ Tz tx n 4 0 0 j ([], []) r4 ∧ zxS tx n R [] r4)
def foz : ou atz → Int
  | .inl e => e.1
  | .inr _ => 0
def plz : ou atz → Int
  | .inl e => e.2
  | .inr _ => -2
def knz : ou atz → Int
  | .inl _ => 0
  | .inr _ => 1
theorem RDz_ok {tx : Nat → Int} {n j : Nat} {A : atz} (h : RDz tx n (.inr (j, A))) : ZW A ∧ A.2.length ≤ 13 * A.1.length := by
  obtain ⟨q, _, ⟨e, _, k⟩ | ⟨j1, r4, _, g, k⟩⟩ := h
  · cases k
  · cases r4 with
    | inl e => cases k
    | inr z =>
      obtain ⟨j2, B⟩ := z
      rcases k with ⟨_, k⟩ | ⟨_, k⟩
      · cases k
        obtain ⟨x, y⟩ := Tz_ok (by omega) g
        exact ⟨x ⟨rfl, fun c hc => by cases hc⟩, (zl13 y (by decide)).1⟩
      · cases k
/-! READ BY VALUE, lifted by program -/
def C_read7z_64 (s : im_S) (Q : Int → im_S → Prop) : Prop := (Q (cgf s 2 4) s)
def C_read7z (l1 : Int) (s : im_S) (Q : Int → im_S → Prop) : Prop := (C_J9_min_7cf53 l1 (gln 3) s (fun z3 s2 => (∀ s4, s4 = cpf s2 2 1 z3 → (∀ s5, s5 = cpf s4 2 2 0 → (∀ s6, s6 = cpf s5 2 4 0 → (∀ s7, s7 = cpf s6 2 5 (-2) → (∀ s8, s8 = cpf s7 2 11 0 → (∀ s9, s9 = cpf s8 2 13 0 → (C_look7v s9 (fun s10 => (CZ_readText 0 s10 (fun s12 => (((cgf s12 2 3) = 0 → (C_read7z_64 s12 Q)) ∧ (¬ ((cgf s12 2 3) = 0) → (C_fail7 2 (cgf s12 2 2) s12 (fun s17 => (C_read7z_64 s17 Q)))))))))))))))))
set_option maxRecDepth 16384 in
theorem c_read7z (L : Nat) (ys : Nat → Int32) (d : Nat) (s : im_S) (hv : jI s) (l1 : Int) (l1r : iR l1) (Q : Int → im_S → Prop) (hW : C_read7z l1 s Q) : pcI L ys 0 d 191 [(2, ((2 : Nat) : Int)), (0, l1)] s (fun z9 s9 => jI s9 ∧ iR z9 ∧ Q z9 s9) := by
  intro res hres
  refine pq_start (M := rm_p_X7_read) (Q := (fun r : im_Re => ∃ z, r.1 = some (0, z) ∧ (jI r.2 ∧ iR z ∧ Q z r.2))) om_X7_read (fun d N => ?_) res hres
  refine pq_w [(0, (2, ((2 : Nat) : Int))), (1, (0, l1))] ⟨rfl, rfl, trivial⟩ ?_
  have J64 : ∀ N64 : Nat, N64 ≤ N → ∀ (s : im_S) (hv : jI s), C_read7z_64 s Q → pq L ys d N64 rm_p_X7_read (64, [(0, (2, ((2 : Nat) : Int)))], [], s) (fun r : im_Re => ∃ z, r.1 = some (0, z) ∧ (jI r.2 ∧ iR z ∧ Q z r.2)) := by
    intro N64 hN64 s hv hW
    unfold C_read7z_64 at hW
    refine pq_l (pc' := 65) rfl rfl rfl rfl rfl ?_
    refine pq_gi (pc' := 68) rfl rfl rfl rfl rfl (fun r1 => ?_)
    exact pq_iret rfl ⟨_, rfl, hv, r1, hW⟩
  unfold C_read7z at hW
  refine pq_l (pc' := 1) rfl rfl rfl rfl rfl ?_
  refine pq_l (pc' := 2) rfl rfl rfl rfl rfl ?_
  refine pq_l (pc' := 3) rfl rfl rfl rfl rfl ?_
  refine pq_gr (pc' := 6) (c := 3) (v := 3) rfl rfl rfl rfl rfl rfl hv ?_
  refine pq_alen (pc' := 7) rfl rfl ?_
  refine pq_cSI (pc' := 10) rfl rfl rfl rfl rfl (c_J9_min_7cf53 L ys d s hv l1 l1r (gln 3) (gln_r _) _ hW) (fun z3 s2 hr => ?_)
  obtain ⟨s2v, z3r, hW⟩ := hr
  refine pq_pX (pc' := 13) rfl rfl rfl rfl (fun e => absurd e (by decide)) (fun e => absurd e (by decide)) s2v (fun s4 s4e s4v => ?_)
  have hW := hW s4 s4e
  refine pq_l (pc' := 14) rfl rfl rfl rfl rfl ?_
  refine pq_k (pc' := 15) (v := (0, 0)) rfl rfl rfl (fun _ => rfl) ?_
  refine pq_pX (pc' := 18) rfl rfl rfl rfl (fun e => absurd e (by decide)) (fun e => absurd e (by decide)) s4v (fun s5 s5e s5v => ?_)
  have hW := hW s5 s5e
  refine pq_l (pc' := 19) rfl rfl rfl rfl rfl ?_
  refine pq_k (pc' := 20) (v := (0, 0)) rfl rfl rfl (fun _ => rfl) ?_
  refine pq_pX (pc' := 23) rfl rfl rfl rfl (fun e => absurd e (by decide)) (fun e => absurd e (by decide)) s5v (fun s6 s6e s6v => ?_)
  have hW := hW s6 s6e
  refine pq_l (pc' := 24) rfl rfl rfl rfl rfl ?_
  refine pq_k (pc' := 26) (v := (0, (-2))) rfl rfl rfl (fun _ => rfl) ?_
  refine pq_pX (pc' := 29) rfl rfl rfl rfl (fun e => absurd e (by decide)) (fun e => absurd e (by decide)) s6v (fun s7 s7e s7v => ?_)
  have hW := hW s7 s7e
  refine pq_l (pc' := 30) rfl rfl rfl rfl rfl ?_
  refine pq_k (pc' := 31) (v := (0, 0)) rfl rfl rfl (fun _ => rfl) ?_
  refine pq_pX (pc' := 34) rfl rfl rfl rfl (fun e => absurd e (by decide)) (fun e => absurd e (by decide)) s7v (fun s8 s8e s8v => ?_)
  have hW := hW s8 s8e
  refine pq_l (pc' := 35) rfl rfl rfl rfl rfl ?_
  refine pq_k (pc' := 36) (v := (0, 0)) rfl rfl rfl (fun _ => rfl) ?_
  refine pq_pX (pc' := 39) rfl rfl rfl rfl (fun e => absurd e (by decide)) (fun e => absurd e (by decide)) s8v (fun s9 s9e s9v => ?_)
  have hW := hW s9 s9e
  refine pq_l (pc' := 40) rfl rfl rfl rfl rfl ?_
  refine pq_cVV (pc' := 43) rfl rfl rfl rfl rfl (c_look7v L ys d s9 s9v  _ hW) (fun s10 hr => ?_)
  obtain ⟨s10v, hW⟩ := hr
  refine pq_l (pc' := 44) rfl rfl rfl rfl rfl ?_
  refine pq_k (pc' := 45) (v := (0, 0)) rfl rfl rfl (fun _ => rfl) ?_
  refine pq_cVV (pc' := 48) rfl rfl rfl rfl rfl ((RZ_all L ys d).1 s10 s10v 0 (⟨by decide, by decide⟩ : iR 0) _ hW) (fun s12 hr => ?_)
  obtain ⟨s12v, hW⟩ := hr
  refine pq_l (pc' := 49) rfl rfl rfl rfl rfl ?_
  refine pq_gi (pc' := 52) rfl rfl rfl rfl rfl (fun r14 => ?_)
  refine pq_z_eq (pt := 64) (pc' := 55) rfl rfl rfl (fun c15 => ?_) (fun c15 => ?_)
  · have hW := hW.1 c15
    refine pq_w [(0, (2, ((2 : Nat) : Int)))] ⟨rfl, trivial⟩ ?_
    exact J64 N (by omega) s12 s12v hW
  · have hW := hW.2 c15
    refine pq_l (pc' := 56) rfl rfl rfl rfl rfl ?_
    refine pq_k (pc' := 57) (v := (0, 2)) rfl rfl rfl (fun _ => rfl) ?_
    refine pq_l (pc' := 58) rfl rfl rfl rfl rfl ?_
    refine pq_gi (pc' := 61) rfl rfl rfl rfl rfl (fun r16 => ?_)
    refine pq_cVV (pc' := 64) rfl rfl rfl rfl rfl (c_fail7 L ys d s12 s12v 2 (⟨by decide, by decide⟩ : iR 2) (cgf s12 2 2) r16 _ hW) (fun s17 hr => ?_)
    obtain ⟨s17v, hW⟩ := hr
    refine pq_w [(0, (2, ((2 : Nat) : Int)))] ⟨rfl, trivial⟩ ?_
    exact J64 N (by omega) s17 s17v hW
/-- what read leaves -/
def rdZ (tx : Nat → Int) (n : Nat) (z : Int) (s' : im_S) : Prop := ∃ R, RDz tx n R ∧ z = foz R ∧ (∀ e, R = .inl e → e.1 ≠ 0 ∧ s'.1 2 5 = e.2) ∧ ∀ j A, R = .inr (j, A) → tat s' A.1 ∧ prg s' A.2
theorem read_z {tx : Nat → Int} {n : Nat} {l1 : Int} {s : im_S} {Q : Int → im_S → Prop} (hl : l1 = (n : Int)) (hn : n ≤ 400) (h3 : gln 3 = 400) (ht : ∀ k, k < n → s.2 3 k = tx k) (hr : ∀ k, k < n → 32 ≤ tx k ∧ tx k ≤ 126) (hQ : ∀ z s', rdZ tx n z s' → Q z s') : C_read7z l1 s Q := by
  refine min_J (fun s1 e1 s2 e2 s3 e3 s4 e4 s5 e5 s6 e6 => ?_)
  have f2 : s6.2 = s.2 := by subst e6; subst e5; subst e4; subst e3; subst e2; subst e1; rfl
  have a1 : s6.1 2 1 = (n : Int) := by
    subst e6; subst e5; subst e4; subst e3; subst e2; subst e1
    rw [cpf_ne (by omega), cpf_ne (by omega), cpf_ne (by omega), cpf_ne (by omega), cpf_ne (by omega), cpf_same]
    omega
  have a2 : s6.1 2 2 = ((0 : Nat) : Int) := by
    subst e6; subst e5; subst e4; subst e3; subst e2
    rw [cpf_ne (by omega), cpf_ne (by omega), cpf_ne (by omega), cpf_ne (by omega), cpf_same]; rfl
  have a4 : s6.1 2 4 = 0 := by
    subst e6; subst e5; subst e4; subst e3
    rw [cpf_ne (by omega), cpf_ne (by omega), cpf_ne (by omega), cpf_same]
  have a11 : s6.1 2 11 = 0 := by
    subst e6; subst e5
    rw [cpf_ne (by omega), cpf_same]
  have a13 : s6.1 2 13 = 0 := by rw [e6, cpf_same]
  have hc : ctx tx n s6 := ⟨a1, hn, by rw [f2]; exact ht, hr⟩
  refine look_v hc a4 a2 (by omega) (fun s7 q aq lk f7 => ?_)
  have fin : ∀ e s', bdS s' e → RDz tx n (.inl e) → Q (s'.1 2 4) s' := fun e s' b g => hQ _ _ ⟨.inl e, g, b.1, fun e' ee => by cases ee; exact ⟨b.2.1, b.2.2.1⟩, fun j A ee => by cases ee⟩
  have b64 : ∀ e s', bdS s' e → RDz tx n (.inl e) → ((cgf s' 2 3 = 0 → C_read7z_64 s' Q) ∧ (¬ (cgf s' 2 3 = 0) → C_fail7 2 (cgf s' 2 2) s' (fun s17 => C_read7z_64 s17 Q))) := fun e s' b g => ⟨fun _ => fin e s' b g, fun _ => fail_bd b (fun s'' b' => fin e s'' b' g)⟩
  cases q with
  | inl e =>
    exact CZt_b (c := 4) (l1 := 0) (show bdS s7 e from lk) (fun s8 b8 => b64 e s8 b8 ⟨.inl e, aq, Or.inl ⟨e, rfl, rfl⟩⟩)
  | inr z =>
    obtain ⟨j, u⟩ := z
    have hg : gdS tx n s7 j := lk
    have A7 : tat s7 [] := ⟨by rw [f7.1 _ _ (by omega)]; exact a11, by simp, fun i p w e => by cases e⟩
    have P7 : prg s7 [] := ⟨by rw [f7.1 _ _ (by omega)]; exact a13, fun i c e => by cases e⟩
    show CZt 4 ((0 : Nat) : Int) s7 _
    have hc7 : ctx tx n s7 := ctx_vf hc (vfr_lk (a := 0) f7)
    refine CZt_g (A := ([], [])) hc7 hg ⟨A7, P7, by decide⟩ (by omega) (fun s8 r g tc => ?_)
    cases r with
    | inl e => exact b64 e s8 tc ⟨.inr (j, u), aq, Or.inr ⟨j, _, rfl, g, rfl⟩⟩
    | inr z =>
      obtain ⟨j2, B⟩ := z
      obtain ⟨g8, c8, t8, _, p8⟩ := tc
      refine ⟨fun z0 => ?_, fun z0 => fail_g g8.1 (by omega) (fun s9 b9 f9 => ?_)⟩
      · have e0 : nxc tx n j2 = 0 := by rw [← g8.2.2.1]; exact z0
        exact hQ _ _ ⟨.inr (j2, B), ⟨.inr (j, u), aq, Or.inr ⟨j, _, rfl, g, Or.inl ⟨e0, rfl⟩⟩⟩, g8.1, (fun e ee => by cases ee), fun j' A ee => by cases ee; exact ⟨t8, p8⟩⟩
      · have e0 : nxc tx n j2 ≠ 0 := by rw [← g8.2.2.1]; exact z0
        have ej : cgf s8 2 2 = (j2 : Int) := g8.2.1
        rw [ej] at b9
        exact fin (2, (j2 : Int)) s9 b9 ⟨.inr (j, u), aq, Or.inr ⟨j, _, rfl, g, Or.inr ⟨e0, rfl⟩⟩⟩
def C_read7y (l1 : Int) (s : im_S) (Q : Int → im_S → Prop) : Prop := ∃ Q1 Q2, C_read7 l1 s Q1 ∧ C_read7z l1 s Q2 ∧ ∀ z s', Q1 z s' → Q2 z s' → Q z s'
theorem c_read7y (L : Nat) (ys : Nat → Int32) (d : Nat) (s : im_S) (hv : jI s) (l1 : Int) (l1r : iR l1) (Q : Int → im_S → Prop) (hW : C_read7y l1 s Q) : pcI L ys 0 d 191 [(2, ((2 : Nat) : Int)), (0, l1)] s (fun z9 s9 => jI s9 ∧ iR z9 ∧ Q z9 s9) := fun res hr => by
  obtain ⟨Q1, Q2, h1, h2, h3⟩ := hW
  obtain ⟨z, e, j, i, q⟩ := c_read7 L ys d s hv l1 l1r Q1 h1 res hr
  obtain ⟨z', e', _, _, q'⟩ := c_read7z L ys d s hv l1 l1r Q2 h2 res hr
  rw [e] at e'
  cases e'
  exact ⟨z, e, j, i, h3 _ _ q q'⟩
/-! load, lifted with addAtom by value -/
def C_load9z (s : im_S) (Q : Int → im_S → Prop) : Prop := (∀ s23, s23 = cpf s 0 0 0 → (C_read7y (cgf s 0 0) s23 (fun z25 s24 => (∀ s26, s26 = cpf s24 0 1 z25 → (∀ v228 : Int, v228 = (if ¬ ((cgf s26 0 1) = 0) then (cgf s26 2 5) else (-2)) → (∀ s230, s230 = cpf s26 0 2 v228 → (∀ v432 : Int, v432 = (if ¬ ((cgf s230 0 1) = 0) then 0 else 1) → (∀ s434, s434 = cpf s230 0 3 v432 → ((¬ ((cgf s434 0 3) = 0) → (∀ s437, s437 = cpf s434 84 2 0 → (ploop (fun (K : Int × im_S → Prop) (a : Int × im_S) => C_load9x_83 K a.1 a.2 Q) (0, s437)))) ∧ ((cgf s434 0 3) = 0 → (Q (cgf s434 0 1) s434)))))))))))
set_option maxRecDepth 16384 in
theorem c_load9z (L : Nat) (ys : Nat → Int32) (d : Nat) (s : im_S) (hv : jI s) (Q : Int → im_S → Prop) (hW : C_load9z s Q) : pcI L ys 0 d 220 [(2, ((0 : Nat) : Int))] s (fun z9 s9 => jI s9 ∧ iR z9 ∧ Q z9 s9) := by
  intro res hres
  refine pq_start (M := rm_p_X9_load) (Q := (fun r : im_Re => ∃ z, r.1 = some (0, z) ∧ (jI r.2 ∧ iR z ∧ Q z r.2))) om_X9_load (fun d N => ?_) res hres
  refine pq_w [(0, (2, ((0 : Nat) : Int)))] ⟨rfl, trivial⟩ ?_
  have J164 : ∀ (I164 : Int × im_S → Prop) (hB164 : ∀ a : Int × im_S, I164 a → C_load9x_164 I164 a.1 a.2 Q), ∀ N164 : Nat, N164 ≤ N → ∀ (l3 : Int) (l3r : iR l3) (s : im_S) (hv : jI s), I164 (l3, s) → pq L ys d N164 rm_p_X9_load (164, [(0, (2, ((0 : Nat) : Int))), (3, (0, l3))], [], s) (fun r : im_Re => ∃ z, r.1 = some (0, z) ∧ (jI r.2 ∧ iR z ∧ Q z r.2)) := by
    intro I164 hB164 N164
    induction N164 using Nat.strongRecOn with
    | _ N164 ih164 =>
      intro hN164 l3 l3r s hv hI
      have hW : C_load9x_164 I164 l3 s Q := hB164 (l3, s) hI
      unfold C_load9x_164 at hW
      refine pq_l (pc' := 165) rfl rfl rfl rfl rfl ?_
      refine pq_l (pc' := 166) rfl rfl rfl rfl rfl ?_
      refine pq_gr (pc' := 169) (c := 83) (v := 83) rfl rfl rfl rfl rfl rfl hv ?_
      refine pq_gi (pc' := 172) rfl rfl rfl rfl rfl (fun r1 => ?_)
      refine pq_c_ge (pt := 189) (pc' := 175) rfl rfl rfl (fun c2 => ?_) (fun c2 => ?_)
      · have hW := hW.1 c2
        refine pq_l (pc' := 190) rfl rfl rfl rfl rfl ?_
        refine pq_gr (pc' := 193) (c := 1) (v := 1) rfl rfl rfl rfl rfl rfl hv ?_
        refine pq_cVV (pc' := 196) rfl rfl rfl rfl rfl (c_fillCells4 L ys d s hv  _ hW) (fun s3 hr => ?_)
        obtain ⟨s3v, hW⟩ := hr
        refine pq_l (pc' := 197) rfl rfl rfl rfl rfl ?_
        refine pq_gi (pc' := 200) rfl rfl rfl rfl rfl (fun r5 => ?_)
        exact pq_iret rfl ⟨_, rfl, s3v, r5, hW⟩
      · have hW := hW.2 c2
        refine pq_l (pc' := 176) rfl rfl rfl rfl rfl ?_
        refine pq_gr (pc' := 179) (c := 1) (v := 1) rfl rfl rfl rfl rfl rfl hv ?_
        refine pq_l (pc' := 180) rfl rfl rfl rfl rfl ?_
        refine pq_cVV (pc' := 183) rfl rfl rfl rfl rfl (c_insert4 L ys d s hv l3 l3r _ hW) (fun s6 hr => ?_)
        obtain ⟨s6v, hW⟩ := hr
        refine pq_inc (pc' := 186) rfl rfl rfl rfl ?_
        refine pq_gotoT (pc' := 164) rfl rfl (fun m8 m8l => ?_)
        refine pq_w [(0, (2, ((0 : Nat) : Int))), (3, (0, (w32 (l3 + 1))))] ⟨rfl, rfl, trivial⟩ ?_
        exact ih164 m8 (by omega) (by omega) (w32 (l3 + 1)) (w32_r _) s6 s6v hW
  have J135 : ∀ (l2 : Int) (l2r : iR l2) (I135 : Int × im_S → Prop) (hB135 : ∀ a : Int × im_S, I135 a → C_load9x_135 I135 l2 a.1 a.2 Q), ∀ N135 : Nat, N135 ≤ N → ∀ (l3 : Int) (l3r : iR l3) (s : im_S) (hv : jI s), I135 (l3, s) → pq L ys d N135 rm_p_X9_load (135, [(0, (2, ((0 : Nat) : Int))), (2, (0, l2)), (3, (0, l3))], [], s) (fun r : im_Re => ∃ z, r.1 = some (0, z) ∧ (jI r.2 ∧ iR z ∧ Q z r.2)) := by
    intro l2 l2r I135 hB135 N135
    induction N135 using Nat.strongRecOn with
    | _ N135 ih135 =>
      intro hN135 l3 l3r s hv hI
      have hW : C_load9x_135 I135 l2 l3 s Q := hB135 (l3, s) hI
      unfold C_load9x_135 at hW
      refine pq_l (pc' := 136) rfl rfl rfl rfl rfl ?_
      refine pq_l (pc' := 137) rfl rfl rfl rfl rfl ?_
      refine pq_c_ge (pt := 154) (pc' := 140) rfl rfl rfl (fun c9 => ?_) (fun c9 => ?_)
      · have hW := hW.1 c9
        refine pq_l (pc' := 155) rfl rfl rfl rfl rfl ?_
        refine pq_gr (pc' := 158) (c := 1) (v := 1) rfl rfl rfl rfl rfl rfl hv ?_
        refine pq_k (pc' := 159) (v := (0, 0)) rfl rfl rfl (fun _ => rfl) ?_
        refine pq_pX (pc' := 162) rfl rfl rfl rfl (fun e => absurd e (by decide)) (fun e => absurd e (by decide)) hv (fun s10 s10e s10v => ?_)
        have hW := hW s10 s10e
        refine pq_k (pc' := 163) (v := (0, 0)) rfl rfl rfl (fun _ => rfl) ?_
        refine pq_s (pc' := 164) rfl rfl rfl rfl rfl ?_
        refine pq_w [(0, (2, ((0 : Nat) : Int))), (3, (0, 0))] ⟨rfl, rfl, trivial⟩ ?_
        obtain ⟨I9, hI9, hB9⟩ := hW
        exact J164 I9 hB9 N135 (by omega) 0 (⟨by decide, by decide⟩ : iR 0) s10 s10v hI9
      · have hW := hW.2 c9
        refine pq_l (pc' := 141) rfl rfl rfl rfl rfl ?_
        refine pq_gr (pc' := 144) (c := 83) (v := 83) rfl rfl rfl rfl rfl rfl hv ?_
        refine pq_l (pc' := 145) rfl rfl rfl rfl rfl ?_
        refine pq_cVV (pc' := 148) rfl rfl rfl rfl rfl (c_solve3 L ys d s hv l3 l3r _ hW) (fun s11 hr => ?_)
        obtain ⟨s11v, hW⟩ := hr
        refine pq_inc (pc' := 151) rfl rfl rfl rfl ?_
        refine pq_gotoT (pc' := 135) rfl rfl (fun m13 m13l => ?_)
        refine pq_w [(0, (2, ((0 : Nat) : Int))), (2, (0, l2)), (3, (0, (w32 (l3 + 1))))] ⟨rfl, rfl, rfl, trivial⟩ ?_
        exact ih135 m13 (by omega) (by omega) (w32 (l3 + 1)) (w32_r _) s11 s11v hW
  have J83 : ∀ (I83 : Int × im_S → Prop) (hB83 : ∀ a : Int × im_S, I83 a → C_load9x_83 I83 a.1 a.2 Q), ∀ N83 : Nat, N83 ≤ N → ∀ (l2 : Int) (l2r : iR l2) (s : im_S) (hv : jI s), I83 (l2, s) → pq L ys d N83 rm_p_X9_load (83, [(0, (2, ((0 : Nat) : Int))), (2, (0, l2))], [], s) (fun r : im_Re => ∃ z, r.1 = some (0, z) ∧ (jI r.2 ∧ iR z ∧ Q z r.2)) := by
    intro I83 hB83 N83
    induction N83 using Nat.strongRecOn with
    | _ N83 ih83 =>
      intro hN83 l2 l2r s hv hI
      have hW : C_load9x_83 I83 l2 s Q := hB83 (l2, s) hI
      unfold C_load9x_83 at hW
      refine pq_l (pc' := 84) rfl rfl rfl rfl rfl ?_
      refine pq_l (pc' := 85) rfl rfl rfl rfl rfl ?_
      refine pq_gr (pc' := 88) (c := 2) (v := 2) rfl rfl rfl rfl rfl rfl hv ?_
      refine pq_gi (pc' := 91) rfl rfl rfl rfl rfl (fun r14 => ?_)
      refine pq_c_ge (pt := 117) (pc' := 94) rfl rfl rfl (fun c15 => ?_) (fun c15 => ?_)
      · have hW := hW.1 c15
        refine pq_l (pc' := 118) rfl rfl rfl rfl rfl ?_
        refine pq_gr (pc' := 121) (c := 83) (v := 83) rfl rfl rfl rfl rfl rfl hv ?_
        refine pq_k (pc' := 122) (v := (0, 0)) rfl rfl rfl (fun _ => rfl) ?_
        refine pq_pX (pc' := 125) rfl rfl rfl rfl (fun _ => Or.inl (by decide)) (fun e => absurd e (by decide)) hv (fun s16 s16e s16v => ?_)
        have hW := hW s16 s16e
        refine pq_l (pc' := 126) rfl rfl rfl rfl rfl ?_
        refine pq_gr (pc' := 129) (c := 84) (v := 84) rfl rfl rfl rfl rfl rfl s16v ?_
        refine pq_gi (pc' := 132) rfl rfl rfl rfl rfl (fun r17 => ?_)
        refine pq_s (pc' := 133) rfl rfl rfl rfl rfl ?_
        refine pq_k (pc' := 134) (v := (0, 0)) rfl rfl rfl (fun _ => rfl) ?_
        refine pq_s (pc' := 135) rfl rfl rfl rfl rfl ?_
        refine pq_w [(0, (2, ((0 : Nat) : Int))), (2, (0, (cgf s16 84 2))), (3, (0, 0))] ⟨rfl, rfl, rfl, trivial⟩ ?_
        obtain ⟨I9, hI9, hB9⟩ := hW
        exact J135 (cgf s16 84 2) r17 I9 hB9 N83 (by omega) 0 (⟨by decide, by decide⟩ : iR 0) s16 s16v hI9
      · have hW := hW.2 c15
        refine pq_l (pc' := 95) rfl rfl rfl rfl rfl ?_
        refine pq_gr (pc' := 98) (c := 84) (v := 84) rfl rfl rfl rfl rfl rfl hv ?_
        refine pq_l (pc' := 99) rfl rfl rfl rfl rfl ?_
        refine pq_gr (pc' := 102) (c := 2) (v := 2) rfl rfl rfl rfl rfl rfl hv ?_
        refine pq_gr (pc' := 105) (c := 60) (v := 60) rfl rfl rfl rfl rfl rfl hv ?_
        refine pq_l (pc' := 106) rfl rfl rfl rfl rfl ?_
        refine pq_aa (pc' := 107) (b := 61) (k := 2) (n := 10) (m := 10) rfl rfl rfl rfl rfl hv (fun r18a r18b => ?_)
        refine pq_l (pc' := 108) rfl rfl rfl rfl rfl ?_
        refine pq_cVV (pc' := 111) rfl rfl rfl rfl rfl (c_addAtom0v L ys d s hv (61 + 2 * (l2).toNat) l2 l2r _ hW) (fun s19 hr => ?_)
        obtain ⟨s19v, hW⟩ := hr
        refine pq_inc (pc' := 114) rfl rfl rfl rfl ?_
        refine pq_gotoT (pc' := 83) rfl rfl (fun m21 m21l => ?_)
        refine pq_w [(0, (2, ((0 : Nat) : Int))), (2, (0, (w32 (l2 + 1))))] ⟨rfl, rfl, trivial⟩ ?_
        exact ih83 m21 (by omega) (by omega) (w32 (l2 + 1)) (w32_r _) s19 s19v hW
  unfold C_load9z at hW
  refine pq_l (pc' := 1) rfl rfl rfl rfl rfl ?_
  refine pq_gi (pc' := 4) rfl rfl rfl rfl rfl (fun r22 => ?_)
  refine pq_s (pc' := 5) rfl rfl rfl rfl rfl ?_
  refine pq_l (pc' := 6) rfl rfl rfl rfl rfl ?_
  refine pq_k (pc' := 7) (v := (0, 0)) rfl rfl rfl (fun _ => rfl) ?_
  refine pq_pX (pc' := 10) rfl rfl rfl rfl (fun e => absurd e (by decide)) (fun e => absurd e (by decide)) hv (fun s23 s23e s23v => ?_)
  have hW := hW s23 s23e
  refine pq_l (pc' := 11) rfl rfl rfl rfl rfl ?_
  refine pq_l (pc' := 12) rfl rfl rfl rfl rfl ?_
  refine pq_gr (pc' := 15) (c := 2) (v := 2) rfl rfl rfl rfl rfl rfl s23v ?_
  refine pq_l (pc' := 16) rfl rfl rfl rfl rfl ?_
  refine pq_cVI (pc' := 19) rfl rfl rfl rfl rfl (c_read7y L ys d s23 s23v (cgf s 0 0) r22 _ hW) (fun z25 s24 hr => ?_)
  obtain ⟨s24v, z25r, hW⟩ := hr
  refine pq_pX (pc' := 22) rfl rfl rfl rfl (fun e => absurd e (by decide)) (fun e => absurd e (by decide)) s24v (fun s26 s26e s26v => ?_)
  have hW := hW s26 s26e
  refine pq_l (pc' := 23) rfl rfl rfl rfl rfl ?_
  refine pq_l (pc' := 24) rfl rfl rfl rfl rfl ?_
  refine pq_gi (pc' := 27) rfl rfl rfl rfl rfl (fun r27 => ?_)
  have J229 : ∀ v228 : Int, iR v228 → ((∀ s230, s230 = cpf s26 0 2 v228 → (∀ v432 : Int, v432 = (if ¬ ((cgf s230 0 1) = 0) then 0 else 1) → (∀ s434, s434 = cpf s230 0 3 v432 → ((¬ ((cgf s434 0 3) = 0) → (∀ s437, s437 = cpf s434 84 2 0 → (ploop (fun (K : Int × im_S → Prop) (a : Int × im_S) => C_load9x_83 K a.1 a.2 Q) (0, s437)))) ∧ ((cgf s434 0 3) = 0 → (Q (cgf s434 0 1) s434))))))) → pq L ys d N rm_p_X9_load (42, [(0, (2, ((0 : Nat) : Int)))], [(0, v228), (2, ((0 : Nat) : Int))], s26) (fun r : im_Re => ∃ z, r.1 = some (0, z) ∧ (jI r.2 ∧ iR z ∧ Q z r.2)) := by
    intro v228 v228r hW
    refine pq_pX (pc' := 45) rfl rfl rfl rfl (fun e => absurd e (by decide)) (fun e => absurd e (by decide)) s26v (fun s230 s230e s230v => ?_)
    have hW := hW s230 s230e
    refine pq_l (pc' := 46) rfl rfl rfl rfl rfl ?_
    refine pq_l (pc' := 47) rfl rfl rfl rfl rfl ?_
    refine pq_gi (pc' := 50) rfl rfl rfl rfl rfl (fun r231 => ?_)
    have J433 : ∀ v432 : Int, iR v432 → ((∀ s434, s434 = cpf s230 0 3 v432 → ((¬ ((cgf s434 0 3) = 0) → (∀ s437, s437 = cpf s434 84 2 0 → (ploop (fun (K : Int × im_S → Prop) (a : Int × im_S) => C_load9x_83 K a.1 a.2 Q) (0, s437)))) ∧ ((cgf s434 0 3) = 0 → (Q (cgf s434 0 1) s434))))) → pq L ys d N rm_p_X9_load (58, [(0, (2, ((0 : Nat) : Int)))], [(0, v432), (2, ((0 : Nat) : Int))], s230) (fun r : im_Re => ∃ z, r.1 = some (0, z) ∧ (jI r.2 ∧ iR z ∧ Q z r.2)) := by
      intro v432 v432r hW
      refine pq_pX (pc' := 61) rfl rfl rfl rfl (fun e => absurd e (by decide)) (fun e => absurd e (by decide)) s230v (fun s434 s434e s434v => ?_)
      have hW := hW s434 s434e
      refine pq_l (pc' := 62) rfl rfl rfl rfl rfl ?_
      refine pq_gi (pc' := 65) rfl rfl rfl rfl rfl (fun r435 => ?_)
      refine pq_z_ne (pt := 73) (pc' := 68) rfl rfl rfl (fun c436 => ?_) (fun c436 => ?_)
      · have hW := hW.1 c436
        refine pq_l (pc' := 74) rfl rfl rfl rfl rfl ?_
        refine pq_gr (pc' := 77) (c := 84) (v := 84) rfl rfl rfl rfl rfl rfl s434v ?_
        refine pq_k (pc' := 78) (v := (0, 0)) rfl rfl rfl (fun _ => rfl) ?_
        refine pq_pX (pc' := 81) rfl rfl rfl rfl (fun e => absurd e (by decide)) (fun e => absurd e (by decide)) s434v (fun s437 s437e s437v => ?_)
        have hW := hW s437 s437e
        refine pq_k (pc' := 82) (v := (0, 0)) rfl rfl rfl (fun _ => rfl) ?_
        refine pq_s (pc' := 83) rfl rfl rfl rfl rfl ?_
        refine pq_w [(0, (2, ((0 : Nat) : Int))), (2, (0, 0))] ⟨rfl, rfl, trivial⟩ ?_
        obtain ⟨I9, hI9, hB9⟩ := hW
        exact J83 I9 hB9 N (by omega) 0 (⟨by decide, by decide⟩ : iR 0) s437 s437v hI9
      · have hW := hW.2 c436
        refine pq_l (pc' := 69) rfl rfl rfl rfl rfl ?_
        refine pq_gi (pc' := 72) rfl rfl rfl rfl rfl (fun r438 => ?_)
        exact pq_iret rfl ⟨_, rfl, s434v, r438, hW⟩
    refine pq_z_ne (pt := 57) (pc' := 53) rfl rfl rfl (fun c232 => ?_) (fun c232 => ?_)
    · refine pq_k (pc' := 58) (v := (0, 0)) rfl rfl rfl (fun _ => rfl) ?_
      refine pq_w [(0, (2, ((0 : Nat) : Int)))] ⟨rfl, trivial⟩ ?_
      exact J433 0 (⟨by decide, by decide⟩ : iR 0) (hW _ (by rw [if_pos c232]))
    · refine pq_k (pc' := 54) (v := (0, 1)) rfl rfl rfl (fun _ => rfl) ?_
      refine pq_goto (pc' := 58) rfl rfl ?_
      refine pq_w [(0, (2, ((0 : Nat) : Int)))] ⟨rfl, trivial⟩ ?_
      exact J433 1 (⟨by decide, by decide⟩ : iR 1) (hW _ (by rw [if_neg (by omega)]))
  refine pq_z_ne (pt := 35) (pc' := 30) rfl rfl rfl (fun c28 => ?_) (fun c28 => ?_)
  · refine pq_l (pc' := 36) rfl rfl rfl rfl rfl ?_
    refine pq_gr (pc' := 39) (c := 2) (v := 2) rfl rfl rfl rfl rfl rfl s26v ?_
    refine pq_gi (pc' := 42) rfl rfl rfl rfl rfl (fun r29 => ?_)
    refine pq_w [(0, (2, ((0 : Nat) : Int)))] ⟨rfl, trivial⟩ ?_
    exact J229 (cgf s26 2 5) r29 (hW _ (by rw [if_pos c28]))
  · refine pq_k (pc' := 32) (v := (0, (-2))) rfl rfl rfl (fun _ => rfl) ?_
    refine pq_goto (pc' := 42) rfl rfl ?_
    refine pq_w [(0, (2, ((0 : Nat) : Int)))] ⟨rfl, trivial⟩ ?_
    exact J229 (-2) (⟨by decide, by decide⟩ : iR (-2)) (hW _ (by rw [if_neg (by omega)]))
