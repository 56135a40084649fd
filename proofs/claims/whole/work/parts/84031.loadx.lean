/-! LOAD OF THE CLASS, with all that the questions need -/
def Fa (A : ats) (j : Nat) : List Int := match A[j]? with
  | some q => pmk 9 q.1
  | none => []
theorem Fa_at {A : ats} {j : Nat} {P : po} {w : Int} (h : A[j]? = some (P, w)) : Fa A j = pmk 9 P := by
  unfold Fa
  rw [h]
def fc9 (s s' : im_S) : Prop := gfr (fun c f => c = 1 ∧ 7 ≤ f ∧ f ≤ 10) (fun c => c = 578 ∨ c = 579 ∨ c = 581) s s'
theorem fillSigns_9 {x : Int} {s0 s : im_S} {Q : im_S → Prop} (h : fc9 s0 s) (hQ : ∀ s', fc9 s0 s' → Q s') : C_fillSigns4 x s Q := by
  unfold C_fillSigns4 C_lead6
  intro v ev
  intro v1 e1 s1 es
  refine ⟨fun a => fc9 s0 a.2.2, by subst es; exact gfr_pa h (by omega), ?_⟩
  rintro ⟨u, v, s2⟩ h2
  dsimp only at h2 ⊢
  refine ⟨fun _ => hQ _ h2, fun _ => rootAt_k (fun r => mult_k (fun z w ew s3 e3 w2 ew2 s4 e4 => ?_))⟩
  subst e4; subst e3
  exact gfr_pa (gfr_pa h2 (by omega)) (by omega)
theorem fillCells_9 {s : im_S} {Q : im_S → Prop} (hQ : ∀ s', fc9 s s' → Q s') : C_fillCells4 s Q := by
  unfold C_fillCells4
  generalize w32 (w32 (2 * cgf s 1 4) + 1) = n
  refine ⟨fun a => fc9 s a.2, gfr_refl _ _ _, ?_⟩
  rintro ⟨x, s1⟩ h1
  dsimp only at h1 ⊢
  refine ⟨fun _ s2 e2 s3 e3 s4 e4 s5 e5 => ?_, fun _ => fillSigns_9 h1 (fun s2 h2 => h2)⟩
  have h5 : fc9 s s5 := by subst e5; subst e4; subst e3; subst e2; exact gfr_pf (gfr_pf (gfr_pf (gfr_pf h1 (by omega)) (by omega)) (by omega)) (by omega)
  refine ⟨fun a => fc9 s a.2, h5, ?_⟩
  rintro ⟨y, s6⟩ h6
  dsimp only at h6 ⊢
  refine ⟨fun _ => hQ _ h6, fun _ _ s7 e7 => trueAtoms_k (fun z => fulfilled_k (fun z2 s8 e8 => ?_))⟩
  have h8 : fc9 s s8 := by subst e8; subst e7; exact gfr_pa (gfr_pa h6 (by omega)) (by omega)
  refine ⟨fun _ => h8, fun _ w ew s9 e9 w2 ew2 s10 e10 s11 e11 s12 e12 => ?_⟩
  subst e12; subst e11; subst e10; subst e9
  exact gfr_pf (gfr_pf (gfr_pf (gfr_pf h8 (by omega)) (by omega)) (by omega)) (by omega)
def CLS (s : im_S) (A : ats) : Prop := ∃ (N n : Nat) (p : Nat → List Int) (M : Nat → Nat → Nat) (cs : Nat → Rat → Int) (oc : Nat → Nat), CVl s (Fa A) A.length N n p M cs oc
theorem CV_of {s s' : im_S} {A : ats} {N n : Nat} {p : Nat → List Int} {M : Nat → Nat → Nat} {cs : Nat → Rat → Int} (N80 : N ≤ 80) (L : LIV s N n 6480 80 p M cs) (z : s.1 1 4 = (N : Int)) (o : ODV (s.2 577) N cs) (ha : ∀ j, j < A.length → atQ9 (Fa A j) j p M n) (hz : ∀ j, A.length ≤ j → j < 10 → ∀ e, e < n → M e j = 0) (ml : A.length ≤ 10) (g : fc9 s s') : CVl s' (Fa A) A.length N n p M cs (fun k => (s.2 577 k).toNat) := by
  obtain ⟨I, F, R, ⟨lo, hi, mi, ot, f⟩, b⟩ := L
  have n80 := I.2.1
  obtain ⟨o1, o2, o3⟩ := o
  have rw_ : ∀ k, k < N → (s.2 577 k).toNat < N ∧ s.2 577 k = (((s.2 577 k).toNat : Nat) : Int) := fun k hk => by
    obtain ⟨m, m1, m2⟩ := o1 k hk
    omega
  refine ⟨N80, ⟨BI_co I g (fun e he => by omega) (fun e he => by omega) (by omega) (dI_co I.2.2.2.2 g (by omega) (by omega)), BF_co F g n80 (fun e he => by omega) (fun e he => by omega) (by omega), RTP_mv R (fun j hj => g.1 _ _ (by omega)) (fun j o hj _ q => rdt_co q g (fun k _ => by omega) (fun k => by omega) (by omega)), ⟨lo, hi, mi, ot, fq_co f g (fun k => by omega)⟩, big_g b g (by omega) (by omega) (by omega)⟩, by rw [g.1 _ _ (by omega)]; exact z, fun k hk => by rw [g.2 577 (by omega)]; exact rw_ k hk, fun k k' kk hk => o3 k k' _ _ kk hk (rw_ k (by omega)).2 (rw_ k' hk).2, fun j hj => ?_, ⟨fun e he => ?_, F.2.1, ha⟩, hz⟩
  · obtain ⟨k, k1, k2⟩ := o2 j hj
    exact ⟨k, k1, by (try dsimp only); omega⟩
  · obtain ⟨_, _, sq, _, i, i1, i2⟩ := F.1 e he
    obtain ⟨k, _, k2⟩ := BF_dg I F he
    refine ⟨⟨k, k2⟩, sq, i, Nat.lt_of_not_le fun q => ?_, i2⟩
    have := hz i q i1 e he
    omega
def ldX (tx : Nat → Int) (n : Nat) (z : Int) (s' : im_S) : Prop := ∃ R, RDo tx n R ∧ z = fou R ∧ s'.1 0 1 = fou R ∧ s'.1 0 2 = plo R ∧ s'.1 0 3 = kno R ∧ s'.1 247 3 ≠ s'.1 247 4 ∧ ∀ j A, R = .inr (j, A) → tat s' A ∧ CLS s' A
theorem load_x {tx : Nat → Int} {n : Nat} {s : im_S} {Q : Int → im_S → Prop} (hk : kp1 s) (hd : dI s) (hne : s.1 247 3 ≠ s.1 247 4) (hl : s.1 0 0 = (n : Int)) (hn : n ≤ 400) (h3 : gln 3 = 400) (ht : ∀ k, k < n → s.2 3 k = tx k) (hr : ∀ k, k < n → 32 ≤ tx k ∧ tx k ≤ 126) (hQ : ∀ z s', ldX tx n z s' → Q z s') : C_load9x s Q := by
  intro s1 e1
  have g1 : gfr (fun c k => c = 0) (fun _ => False) s s1 := by subst e1; exact gfr_pf (gfr_refl _ _ _) rfl
  have k1 : kp1 s1 := kp1_co hk g1 (fun c k e => by omega) (fun c e => e.elim) (fun k => by omega) (fun k => by omega) (fun z => z) (fun z => z)
  refine ⟨fun _ s2 => RK s1 s2, fun z s2 => rdQ tx n z s2, read_k k1.1 (fun z s2 h2 => h2), read_v hl hn h3 (by rw [show s1.2 = s.2 by subst e1; rfl]; exact ht) hr (fun z s2 h => h), fun z s2 h2 hv2 => ?_⟩
  intro s3 e3 v ev s4 e4 w ew s5 e5
  obtain ⟨R, hR, zR, pR, tR⟩ := hv2
  have g2 := h2.2.2.2
  have k2 : kp1 s2 := by
    obtain ⟨a, ⟨lo, hi, mi, ot, b⟩, c, d⟩ := k1
    exact ⟨h2.1, ⟨lo, hi, mi, ot, fq_co b g2 (fun k => by omega)⟩, big_co c (g2.1 _ _ (by omega)) (g2.1 _ _ (by omega)) (g2.2 _ (by omega)), big_co d (g2.1 _ _ (by omega)) (g2.1 _ _ (by omega)) (g2.2 _ (by omega))⟩
  have g5 : gfr (fun c k => c = 0) (fun _ => False) s2 s5 := by subst e5; subst e4; subst e3; exact gfr_pf (gfr_pf (gfr_pf (gfr_refl _ _ _) rfl) rfl) rfl
  have k5 : kp1 s5 := kp1_co k2 g5 (fun c k e => by omega) (fun c e => e.elim) (fun k => by omega) (fun k => by omega) (fun z => z) (fun z => z)
  have d5 : dI s5 := dI_co (dI_co (dI_co hd g1 (by omega) (by omega)) g2 (by omega) (by omega)) g5 (by omega) (by omega)
  have a5 : atb s5 := by
    obtain ⟨a1, a2, a3⟩ := h2.2.1
    have e : s5.1 2 11 = s2.1 2 11 := g5.1 _ _ (by omega)
    exact ⟨by omega, by omega, fun i hi => pok_fr (a3 i (by omega)) g5 (by omega) (fun z => z)⟩
  have z3 : cgf s3 0 1 = z := by rw [e3]; exact cpf_same _ _ _ _
  have z4 : cgf s4 0 1 = z := by rw [e4]; exact (cpf_ne (by omega)).trans z3
  have z5 : s5.1 0 1 = fou R := by rw [e5, cpf_ne (by omega)]; exact z4.trans zR
  have p5 : s5.1 0 2 = plo R := by
    rw [e5, cpf_ne (by omega), e4, cpf_same, ev, z3, zR]
    cases R with
    | inl e =>
      have := pR e rfl
      rw [if_pos (show ¬ fou (.inl e) = 0 from this.1)]
      rw [e3]
      exact (cpf_ne (by omega)).trans this.2
    | inr q => rw [if_neg (fun c => c rfl)]; rfl
  have o5 : s5.1 0 3 = kno R := by
    rw [e5, cpf_same, ew, z4, zR]
    cases R with
    | inl e => rw [if_pos (show ¬ fou (.inl e) = 0 from (pR e rfl).1)]; rfl
    | inr q => rw [if_neg (fun c => c rfl)]; rfl
  have t5 : ∀ j A, R = .inr (j, A) → tat s5 A := fun j A e => tat_fr (tR j A e) g5 (by omega) (fun i hi => by omega) (fun i hi z => z) (fun z => z)
  have n5 : s5.1 247 3 ≠ s5.1 247 4 := by
    rw [g5.1 _ _ (by omega), g5.1 _ _ (by omega), g2.1 _ _ (by omega), g2.1 _ _ (by omega), g1.1 _ _ (by omega), g1.1 _ _ (by omega)]
    exact hne
  have fin : ∀ z s', z = s5.1 0 1 → upf s5 s' → s'.1 247 3 ≠ s'.1 247 4 → (∀ j A, R = .inr (j, A) → CLS s' A) → Q z s' := fun z s' ez u hn hc => hQ _ _ ⟨R, hR, ez.trans z5, (u.1 _ _ (by omega)).trans z5, (u.1 _ _ (by omega)).trans p5, (u.1 _ _ (by omega)).trans o5, hn, fun j A e => ⟨tat_fr (t5 j A e) u (by omega) (fun i hi => by omega) (fun i hi => by omega) (by omega), hc j A e⟩⟩
  refine ⟨fun c s6 e6 => ?_, fun c => fin _ _ rfl (gfr_refl _ _ _) n5 (fun j A e => ?_)⟩
  · have g6 : gfr (fun c k => c = 84 ∧ k = 2) (fun _ => False) s5 s6 := by subst e6; exact gfr_pf (gfr_refl _ _ _) ⟨rfl, rfl⟩
    have u6 : upf s5 s6 := gfr_mono g6 (fun c k e => by omega) (fun c e => e.elim)
    have B6 : BI s6 0 ((8 : Int) * ((0 : Nat) : Int)) := ⟨by subst e6; rw [cpf_same]; rfl, by omega, fun e he => by omega, by show (0 : Int) ≤ _; omega, dI_co d5 g6 (by omega) (by omega)⟩
    have k6 : kp1 s6 := kp1_co k5 g6 (fun c k e => by omega) (fun c e => e.elim) (fun k => by omega) (fun k => by omega) (fun z => z) (fun z => z)
    cases R with
    | inl e => exact absurd o5 c
    | inr q =>
      obtain ⟨j, A⟩ := q
      obtain ⟨a1, a2, a3⟩ := t5 j A rfl
      refine body_v (m := A.length) (F := Fa A) B6 a2 (by rw [g6.1 _ _ (by omega)]; exact a1) (fun i hi => ?_) k6 (by rw [g6.1 _ _ (by omega), g6.1 _ _ (by omega)]; exact n5) (fun s7 N n p M cs N80 L7 z7 f7 o7 at7 k7 u7 ne7 zr7 => ?_)
      · obtain ⟨P, w, e⟩ : ∃ P w, A[i]? = some (P, w) := ⟨A[i].1, A[i].2, by rw [List.getElem?_eq_getElem hi]⟩
        obtain ⟨x, y, _⟩ := a3 i P w e
        rw [Fa_at e]
        refine ⟨ply_fr x g6 (by omega) (fun z => z), fun k => ?_⟩
        rw [pmk_gt]
        split
        · have := y k (by assumption); omega
        · decide
      · refine fillCells_9 (fun s8 g8 => ?_)
        have u8 : upf s6 s8 := gfr_trans u7 (gfr_mono g8 (fun c f e => by omega) (fun c e => by omega))
        refine fin _ s8 (by show s8.1 0 1 = _; rw [u8.1 _ _ (by omega), u6.1 _ _ (by omega)]) (gfr_trans u6 u8) (by rw [g8.1 _ _ (by omega), g8.1 _ _ (by omega)]; exact ne7) (fun j' A' e' => ?_)
        cases e'
        exact ⟨N, n, p, M, cs, _, CV_of N80 L7 z7 o7 at7 zr7 a2 g8⟩
  · subst e
    exact absurd (show (1 : Int) = 0 from o5.symm.trans c) (by decide)
