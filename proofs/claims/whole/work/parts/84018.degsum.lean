/-! DEGREES OF TWO SYSTEMS OF PIECES -/
def dge (P : List Int) (d : Nat) : Prop := pdb P (d + 1) ∧ pgt P d ≠ 0
theorem dge_u {P : List Int} {a b : Nat} (h : dge P a) (h' : dge P b) : a = b := by
  rcases Nat.lt_trichotomy a b with q | q | q
  · exact absurd (h.1 b (by omega)) h'.2
  · exact q
  · exact absurd (h'.1 a (by omega)) h.2
theorem dge_ex {P : List Int} (h : nzp P) : ∃ d, dge P d := by
  obtain ⟨T, lT, eT⟩ := trim P
  have T1 : 1 ≤ T.length := by
    obtain ⟨k, hk⟩ := h
    cases T with
    | nil => exact absurd (eT k).symm hk
    | cons a t => show 1 ≤ t.length + 1; omega
  refine ⟨T.length - 1, fun k hk => ?_, ?_⟩
  · rw [← eT k]; exact pgt_hi T k (by omega)
  · rw [← eT]; exact lT _ (by omega)
theorem dge_nz {P : List Int} {d : Nat} (h : dge P d) : nzp P := ⟨d, h.2⟩
theorem dge_mul {P A B : List Int} {k : Int} {a b : Nat} (k0 : k ≠ 0) (e : ∀ x : Rat, (k : Rat) * pev P x = pev A x * pev B x) (hA : dge A a) (hB : dge B b) : dge P (a + b) := by
  have c : ∀ j, k * pgt P j = pgt (pmul A B) j := fun j => by
    rw [← psm_gt]
    exact pev_inj (fun x => by rw [psm_ev, pmul_ev]; exact e x) j
  refine ⟨fun j hj => ?_, fun z => ?_⟩
  · have w := pdb_mul hA.1 hB.1 j (by omega)
    rw [← c j] at w
    rcases Int.mul_eq_zero.1 w with q | q
    · exact absurd q k0
    · exact q
  · have w := pdb_top hA.1 hB.1
    rw [← c, z, Int.mul_zero] at w
    exact Int.mul_ne_zero hA.2 hB.2 w.symm
theorem qd_dge {H F : List Int} {a b : Nat} (h : qd H F) (hH : dge H a) (hF : dge F b) : a ≤ b := by
  obtain ⟨k, K, k0, e⟩ := h
  obtain ⟨nH, nK⟩ := nz_qd k0 (dge_nz hF) e
  obtain ⟨c, hc⟩ := dge_ex nK
  have := dge_u hF (dge_mul k0 e hH hc)
  omega
theorem isg_qd {A B H H' : List Int} (h : isg A B H) (h' : isg A B H') : qd H' H := by
  obtain ⟨_, _, _, c, u, v, c0, e⟩ := h
  obtain ⟨_, ⟨k, K, k0, f⟩, ⟨l, L, l0, g⟩, _⟩ := h'
  refine ⟨k * l * c, padd (psm l (pmul u K)) (psm k (pmul v L)), Int.mul_ne_zero (Int.mul_ne_zero k0 l0) c0, fun x => ?_⟩
  have a1 := e x
  have a2 := f x
  have a3 := g x
  rw [padd_ev, psm_ev, psm_ev, pmul_ev, pmul_ev, Rat.intCast_mul, Rat.intCast_mul, Rat.mul_assoc, a1]
  generalize (k : Rat) = k at *
  generalize (l : Rat) = l at *
  generalize pev u x = u at *
  generalize pev v x = v at *
  generalize pev A x = A at *
  generalize pev B x = B at *
  generalize pev H' x = H at *
  generalize pev K x = K at *
  generalize pev L x = L at *
  have : k * l * (u * A + v * B) = l * u * (k * A) + k * v * (l * B) := by grind
  rw [this, a2, a3]
  grind
theorem isg_dge {A B H H' : List Int} {a b : Nat} (h : isg A B H) (h' : isg A B H') (hH : dge H a) (hH' : dge H' b) : a = b := Nat.le_antisymm (qd_dge (isg_qd h' h) hH hH') (qd_dge (isg_qd h h') hH' hH)
theorem isg_sym {A B H : List Int} (h : isg A B H) : isg B A H := by
  obtain ⟨a, b, c, k, u, v, k0, e⟩ := h
  exact ⟨a, c, b, k, v, u, k0, fun x => by rw [e x]; grind⟩
/-- a square-free one taken apart by coprime pieces -/
theorem peel2 {p : Nat → List Int} {q : List Int} {g : Nat → Nat} {n' : Nat} (nq : nzp q) (sq : sqf q) (np : ∀ e, e < n' → nzp (p e)) (hp : ∀ e e', e < n' → e' < n' → e ≠ e' → cop (p e) (p e')) (hg : ∀ e, e < n' → ∃ H, isg q (p e) H ∧ dge H (g e)) : ∀ n : Nat, n ≤ n' → ∃ (r K : List Int) (m : Int) (d : Nat), m ≠ 0 ∧ (∀ x : Rat, (m : Rat) * pev q x = pev r x * pev K x) ∧ (∀ e, e < n → cop r (p e)) ∧ (∀ j, n ≤ j → j < n' → cop K (p j)) ∧ dge r d ∧ dge q (d + sNt g n)
  | 0, _ => by
    obtain ⟨d, hd⟩ := dge_ex nq
    exact ⟨q, [1], 1, d, by decide, fun x => by rw [rat_i1, pev_c1, Rat.one_mul, Rat.mul_one], fun e he => by omega, fun j _ _ => cop_sym (cop_o _), hd, hd⟩
  | n + 1, hn => by
    obtain ⟨r, K, m, d, m0, e0, c1, c2, d1, d2⟩ := peel2 nq sq np hp hg n (by omega)
    obtain ⟨H, hH⟩ := gex (dge_nz d1) (p n)
    obtain ⟨nH, ⟨k, U, k0, e1⟩, ⟨l, V, l0, e2⟩, c, u, v, c0, e3⟩ := id hH
    have qr : qd r q := ⟨m, K, m0, e0⟩
    have sr := sqf_dv qr sq
    obtain ⟨_, nU⟩ := nz_qd k0 (dge_nz d1) e1
    obtain ⟨a, ha⟩ := dge_ex nH
    obtain ⟨b, hb⟩ := dge_ex nU
    have qU : qd U r := ⟨k, H, k0, fun x => by rw [e1 x]; grind⟩
    have hHp : qd H (p n) := ⟨l, V, l0, e2⟩
    -- H is the divisor of q and p n too
    have hq : isg q (p n) H := by
      obtain ⟨c', a', b', c0', e4⟩ := c2 n (Nat.le_refl _) (by omega)
      refine ⟨nH, qd_trans ⟨k, U, k0, e1⟩ qr, hHp, c * c', psm m (pmul u a'), padd (pmul u (pmul b' r)) (psm c' v), Int.mul_ne_zero c0 c0', fun x => ?_⟩
      have y0 := e0 x
      have y3 := e3 x
      have y4 := e4 x
      rw [psm_ev, pmul_ev, padd_ev, pmul_ev, pmul_ev, psm_ev, Rat.intCast_mul]
      generalize (c : Rat) = c at *
      generalize (c' : Rat) = c' at *
      generalize (m : Rat) = m at *
      generalize pev u x = u at *
      generalize pev v x = v at *
      generalize pev a' x = a' at *
      generalize pev b' x = b' at *
      generalize pev r x = r at *
      generalize pev K x = K at *
      generalize pev q x = q at *
      generalize pev (p n) x = pn at *
      generalize pev H x = H at *
      have : c * c' * H = c' * (c * H) := by grind
      rw [this, y3]
      have : m * (u * a') * q = u * a' * (m * q) := by grind
      rw [this, y0, y4]
      grind
    obtain ⟨H0, i0, j0⟩ := hg n (by omega)
    have ag : a = g n := isg_dge hq i0 ha j0
    refine ⟨U, pmul K H, m * k, b, Int.mul_ne_zero m0 k0, fun x => ?_, fun e he => ?_, fun j j1 j2 => ?_, hb, ?_⟩
    · have y0 := e0 x
      have y1 := e1 x
      rw [pmul_ev, Rat.intCast_mul]
      generalize (m : Rat) = m at *
      generalize (k : Rat) = k at *
      generalize pev q x = q at *
      generalize pev r x = r at *
      generalize pev K x = K at *
      generalize pev H x = H at *
      generalize pev U x = U at *
      have : m * k * q = k * (m * q) := by grind
      rw [this, y0]
      have : k * (r * K) = (k * r) * K := by grind
      rw [this, y1]
      grind
    · by_cases en : e = n
      · subst en
        have z1 := isg_cop hH e1 e2 k0 l0
        have z2 := cop_sym (cop_sqk k0 sr e1)
        have z3 : cop U (psm l (p e)) := cop_ml z2 z1 (fun x => by rw [psm_ev]; exact e2 x)
        exact cop_qd z3 ⟨1, [l], by decide, fun x => by rw [rat_i1, psm_ev, ev_c]; grind⟩
      · exact cop_qd2 (c1 e (by omega)) qU
    · refine cop_sym (cop_ml (cop_sym (c2 j (by omega) j2)) (cop_sym (cop_qd2 (hp n j (by omega) j2 (by omega)) hHp)) (fun x => pmul_ev K H x))
    · have := dge_u d1 (dge_mul k0 e1 ha hb)
      show dge q (b + (sNt g n + g n))
      rw [show b + (sNt g n + g n) = d + sNt g n by omega]
      exact d2
theorem cop_d0 {r : List Int} {d : Nat} (h : cop r r) (hd : dge r d) : d = 0 := by
  obtain ⟨c, u, v, c0, e⟩ := h
  have q : qd r [c] := ⟨1, padd u v, by decide, fun x => by rw [rat_i1, ev_c, e x, padd_ev]; grind⟩
  have := qd_dge q hd (show dge [c] 0 from ⟨fun k hk => by
    match k, hk with
    | k + 1, _ => rfl, c0⟩)
  omega
theorem sNt_co {f g : Nat → Nat} : ∀ {n : Nat}, (∀ k, k < n → f k = g k) → sNt f n = sNt g n
  | 0, _ => rfl
  | n + 1, h => by
    show sNt f n + f n = sNt g n + g n
    rw [sNt_co (fun k hk => h k (by omega)), h n (by omega)]
theorem sNt_0 {f : Nat → Nat} {n : Nat} (h : ∀ k, k < n → f k = 0) : sNt f n = 0 := by
  rw [sNt_co (g := fun _ => 0) h]
  induction n with
  | zero => rfl
  | succ n ih =>
    show sNt (fun _ => 0) n + 0 = 0
    rw [Nat.add_zero]
    exact ih (fun k hk => h k (by omega))
theorem sNt_add {f g : Nat → Nat} : ∀ n : Nat, sNt (fun k => f k + g k) n = sNt f n + sNt g n
  | 0 => rfl
  | n + 1 => by
    show sNt (fun k => f k + g k) n + (f n + g n) = sNt f n + f n + (sNt g n + g n)
    rw [sNt_add n]; omega
theorem sNt_swap {F : Nat → Nat → Nat} {m : Nat} : ∀ n : Nat, sNt (fun e => sNt (fun e' => F e e') m) n = sNt (fun e' => sNt (fun e => F e e') n) m
  | 0 => (sNt_0 (fun _ _ => rfl)).symm
  | n + 1 => by
    show sNt (fun e => sNt (fun e' => F e e') m) n + sNt (fun e' => F n e') m = sNt (fun e' => sNt (fun e => F e e') n + F n e') m
    rw [sNt_swap n, sNt_add]
/-- each piece is, by degree, the sum of what it shares with the other's pieces -/
theorem SYS_deg {A : Nat → List Int} {m n n' e d : Nat} {p p' : Nat → List Int} {M M' : Nat → Nat → Nat} {g : Nat → Nat} (h : SYS A m n p M) (h' : SYS A m n' p' M') (he : e < n) (hd : dge (p e) d) (hg : ∀ e', e' < n' → ∃ H, isg (p e) (p' e') H ∧ dge H (g e')) : d = sNt g n' := by
  obtain ⟨np, sp, i, im, hi⟩ := h.1 e he
  have nA := SYS_nz h im he hi
  obtain ⟨a, b, a0, b0, ab⟩ := two_eq ((h.2.2 i im).2 nA) ((h'.2.2 i im).2 nA)
  obtain ⟨r, K, k, d', k0, e0, c1, _, d1, d2⟩ := peel2 np sp (fun e he => (h'.1 e he).1) h'.2.1 hg n' (Nat.le_refl _)
  obtain ⟨J, hJ⟩ := PRd_dv (p := p) (m := fun e => M e i) hi he
  obtain ⟨L, hL⟩ := PRd_list p' (fun e => M' e i) n'
  have z1 : cop r L := cop_PR n' L (fun e he _ => c1 e he) hL
  have q1 : qd (p e) L := ⟨b, psm a J, b0, fun x => by
    rw [hL x, ← ab x, hJ x, psm_ev]; grind⟩
  have z2 := cop_qd z1 (qd_trans ⟨k, K, k0, e0⟩ q1)
  have := cop_d0 z2 d1
  have := dge_u hd d2
  omega
theorem SYS_sum {A : Nat → List Int} {m n n' : Nat} {p p' : Nat → List Int} {M M' : Nat → Nat → Nat} {dp dq : Nat → Nat} (h : SYS A m n p M) (h' : SYS A m n' p' M') (hp : ∀ e, e < n → dge (p e) (dp e)) (hq : ∀ e, e < n' → dge (p' e) (dq e)) (Φ : (Nat → Nat) → Bool) (hΦ : ∀ a b : Nat → Nat, (∀ i, i < m → a i = b i) → Φ a = Φ b) : sNt (fun e => if Φ (M e) = true then dp e else 0) n = sNt (fun e => if Φ (M' e) = true then dq e else 0) n' := by
  have ex : ∀ e e' : Nat, ∃ d : Nat, e < n → e' < n' → ∃ H, isg (p e) (p' e') H ∧ dge H d := fun e e' => by
    by_cases c : e < n
    · obtain ⟨H, hH⟩ := gex (h.1 e c).1 (p' e')
      obtain ⟨d, hd⟩ := dge_ex hH.1
      exact ⟨d, fun _ _ => ⟨H, hH, hd⟩⟩
    · exact ⟨0, fun w => absurd w c⟩
  obtain ⟨G, hG⟩ : ∃ G : Nat → Nat → Nat, ∀ e e', e < n → e' < n' → ∃ H, isg (p e) (p' e') H ∧ dge H (G e e') := by
    have z : ∀ e : Nat, ∃ g : Nat → Nat, ∀ e', e < n → e' < n' → ∃ H, isg (p e) (p' e') H ∧ dge H (g e') := fun e => Classical.axiomOfChoice (ex e)
    exact Classical.axiomOfChoice z
  have s1 : ∀ e, e < n → dp e = sNt (fun e' => G e e') n' := fun e he => SYS_deg h h' he (hp e he) (fun e' he' => hG e e' he he')
  have s2 : ∀ e', e' < n' → dq e' = sNt (fun e => G e e') n := fun e' he' => SYS_deg h' h he' (hq e' he') (fun e he => by
    obtain ⟨H, a, b⟩ := hG e e' he he'
    exact ⟨H, isg_sym a, b⟩)
  have eqm : ∀ e e', e < n → e' < n' → G e e' ≠ 0 → Φ (M e) = Φ (M' e') := fun e e' he he' nz => hΦ _ _ (fun i im => by
    obtain ⟨H, ⟨nH, q1, q2, _⟩, dH⟩ := hG e e' he he'
    have hg : ¬ cop H H := fun z => nz (cop_d0 z dH)
    exact Nat.le_antisymm (SYS_mu h h' he he' im nH q1 q2 hg) (SYS_mu h' h he' he im nH q2 q1 hg))
  have l1 : sNt (fun e => if Φ (M e) = true then dp e else 0) n = sNt (fun e => sNt (fun e' => if Φ (M e) = true then G e e' else 0) n') n := sNt_co (fun e he => by
    try dsimp only
    by_cases c : Φ (M e) = true
    · rw [if_pos c, s1 e he]
      exact sNt_co (fun _ _ => (if_pos c).symm)
    · rw [if_neg c]
      exact (sNt_0 (fun _ _ => if_neg c)).symm)
  have l2 : sNt (fun e => if Φ (M' e) = true then dq e else 0) n' = sNt (fun e' => sNt (fun e => if Φ (M' e') = true then G e e' else 0) n) n' := sNt_co (fun e he => by
    try dsimp only
    by_cases c : Φ (M' e) = true
    · rw [if_pos c, s2 e he]
      exact sNt_co (fun _ _ => (if_pos c).symm)
    · rw [if_neg c]
      exact (sNt_0 (fun _ _ => if_neg c)).symm)
  rw [l1, l2, sNt_swap]
  refine sNt_co (fun e' he' => sNt_co (fun e he => ?_))
  try dsimp only
  by_cases z : G e e' = 0
  · rw [z, ite_self, ite_self]
  · rw [eqm e e' he he' z]
