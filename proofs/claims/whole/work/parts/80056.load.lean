/-! LOAD OF THE CLASS BY VALUE -/
/-- what the part behind read changes -/
def upf (s s' : im_S) : Prop := gfr (fun c _ => c = 1 ∨ 83 ≤ c) (fun c => 83 ≤ c) s s'
theorem lw_164 {s0 s : im_S} {n N : Nat} {Q : Int → im_S → Prop} (hB : BI s n 80) (hN : N ≤ 80) (hf : s.1 83 3 = (N : Int)) (hz : s.1 1 4 = 0) (hr : ∀ k, k < N → rgo s n k) (hk : kp1 s) (hu : upf s0 s) (hQ : ∀ z s', z = s0.1 0 1 → upf s0 s' → Q z s') : ploop (fun (K : Int × im_S → Prop) (a : Int × im_S) => C_load9w_164 K a.1 a.2 Q) (0, s) := by
  refine ⟨fun a => ∃ i : Nat, a.1 = (i : Int) ∧ i ≤ N ∧ BI a.2 n 80 ∧ a.2.1 83 3 = (N : Int) ∧ a.2.1 1 4 = (i : Int) ∧ odk a.2 N i ∧ (∀ k, k < N → rgo a.2 n k) ∧ kp1 a.2 ∧ upf s0 a.2, ⟨0, rfl, by omega, hB, hf, hz, fun i hi => by omega, hr, hk, hu⟩, ?_⟩
  rintro ⟨x, s1⟩ ⟨i, e, iN, B1, f1, z1, o1, r1, k1, u1⟩
  dsimp only at e B1 f1 z1 o1 r1 k1 u1 ⊢
  subst e
  refine ⟨fun _ => fillCells_k (fun s2 g2 => ?_), fun c => ?_⟩
  · have u2 : upf s0 s2 := gfr_trans u1 (gfr_mono g2 (fun c f e => by omega) (fun c e => by omega))
    exact hQ _ _ (u2.1 _ _ (by omega)) u2
  · have iN' : i < N := by unfold cgf at c; omega
    refine insert_b B1 hN iN' z1 (by omega) o1 r1 k1.2.1 k1.2.2.2 (fun s2 r2 B2 q2 z2 o2 g2 => ?_)
    refine ⟨i + 1, w32s (by omega), by omega, B2, ?_, z2, o2, r2, ?_, ?_⟩
    · rw [g2.1 _ _ (by unfold inF cdF; omega)]; exact f1
    · exact kp1_fq k1 q2 g2 (fun c k e => by unfold inF cdF at e; omega) (fun c e => by unfold inR cdR at e; omega) (fun k => by unfold inF cdF; omega) (fun k => by unfold inF cdF; omega) (by unfold inR cdR; omega) (by unfold inR cdR; omega)
    · exact gfr_trans u1 (gfr_mono g2 (fun c k e => by unfold inF cdF at e; omega) (fun c e => by unfold inR cdR at e; omega))
theorem lw_135 {s0 s : im_S} {n : Nat} {Q : Int → im_S → Prop} (hB : BI s n 80) (hf : s.1 83 3 = 0) (hk : kp1 s) (hu : upf s0 s) (hQ : ∀ z s', z = s0.1 0 1 → upf s0 s' → Q z s') : ploop (fun (K : Int × im_S → Prop) (a : Int × im_S) => C_load9w_135 K (cgf s 84 2) a.1 a.2 Q) (0, s) := by
  have n80 := hB.2.1
  rw [show cgf s 84 2 = (n : Int) from hB.1]
  refine ⟨fun a => ∃ e n1 f : Nat, a.1 = (e : Int) ∧ e ≤ n ∧ n ≤ n1 ∧ BI a.2 n1 80 ∧ a.2.1 83 3 = (f : Int) ∧ (f : Int) ≤ dsp s e ∧ (∀ e', e ≤ e' → e' < n → ∀ P, ply s (86 + 2 * e') P → ply a.2 (86 + 2 * e') P) ∧ (∀ k, k < f → rg2 a.2 e k) ∧ kp1 a.2 ∧ upf s0 a.2, ⟨0, n, 0, rfl, by omega, Nat.le_refl _, hB, hf, Int.le_refl _, fun e' _ _ P h => h, fun k hk => by omega, hk, hu⟩, ?_⟩
  rintro ⟨x, s1⟩ ⟨e, n1, f, ex, en, nn, B1, f1, fd, pl, r1, k1, u1⟩
  dsimp only at ex B1 f1 fd pl r1 k1 u1 ⊢
  subst ex
  have dn := dsp_le hB.2.2.1 n (Nat.le_refl _)
  have d80 := hB.2.2.2.1
  refine ⟨fun c s2 e2 => ?_, fun c => ?_⟩
  · have g2 : gfr (fun c k => c = 1 ∧ k = 4) (fun _ => False) s1 s2 := by subst e2; exact gfr_pf (gfr_refl _ _ _) ⟨rfl, rfl⟩
    have f80 : f ≤ 80 := by have := dn e en; omega
    refine lw_164 (s0 := s0) (n := n1) (N := f) (BI_co B1 g2 (fun e he => by omega) (fun e he => fun z => z) (by omega) (dI_co B1.2.2.2.2 g2 (by omega) (by omega))) f80 (by rw [g2.1 _ _ (by omega)]; exact f1) (by subst e2; rw [cpf_same]) (fun k hk => ?_) (kp1_co k1 g2 (fun c k e => by omega) (fun c e => e.elim) (fun k => by omega) (fun k => by omega) (fun z => z) (fun z => z)) (gfr_trans u1 (gfr_mono g2 (fun c k e => by omega) (fun c e => e.elim))) hQ
    rcases r1 k hk with h | ⟨e2, P, l, r, a1, a2, a3, a4⟩
    · exact Or.inl (lfF_co h g2 (fun k => by omega))
    · exact Or.inr ⟨e2, P, l, r, by omega, ply_fr a2 g2 (by omega) (fun z => z), a3, lfS_co a4 g2 (fun k => by omega) (fun k => by omega) (fun z => z)⟩
  · have en' : e < n := by omega
    obtain ⟨P, q1, q2, q3⟩ := hB.2.2.1 e en'
    have q4 := pl e (Nat.le_refl _) en' P q1
    have dd : s1.1 (86 + 2 * e) 0 = s.1 (86 + 2 * e) 0 := dgo_u q4.2 q1.2
    obtain ⟨d, hd⟩ : ∃ d : Nat, s.1 (86 + 2 * e) 0 = (d : Int) := ⟨(s.1 (86 + 2 * e) 0).toNat, by omega⟩
    have de : dsp s (e + 1) = dsp s e + d := by show dsp s e + _ = _; rw [hd]
    have d1 := dn (e + 1) (by omega)
    refine solve_b B1 (by omega) (by omega) q4 q2 (dd.trans hd) f1 (by omega) k1.2.1 k1.2.2.1 k1.2.2.2 (fun s2 n2 m h1 h2 B2 fq2 ps2 lf2 f2 g2 => ?_)
    refine ⟨e + 1, n2, f + m, w32s (by omega), by omega, by omega, B2, f2, by omega, fun e' h3 h4 P' hP' => ps2 e' (by omega) (by omega) P' (pl e' (by omega) h4 P' hP'), fun k hk => ?_, ?_, ?_⟩
    · by_cases ck : k < f
      · rcases r1 k ck with h | ⟨e2, P2, l, r, a1, a2, a3, a4⟩
        · exact Or.inl (lfF_co h g2 (fun k => by unfold slF; omega))
        · exact Or.inr ⟨e2, P2, l, r, by omega, ps2 e2 (by omega) (by omega) P2 a2, a3, lfS_co a4 g2 (fun k => by unfold slF; omega) (fun k => by unfold slF; omega) (by unfold slR; omega)⟩
      · have := lf2 (k - f) (by omega)
        rw [show f + (k - f) = k by omega] at this
        rcases this with h | ⟨P2, l, r, a2, a3, a4⟩
        · exact Or.inl h
        · exact Or.inr ⟨e, P2, l, r, by omega, a2, a3, a4⟩
    · exact kp1_fq k1 fq2 g2 (fun c k e => by unfold slF at e; omega) (fun c e => by unfold slR at e; omega) (fun k => by unfold slF; omega) (fun k => by unfold slF; omega) (by unfold slR; omega) (by unfold slR; omega)
    · exact gfr_trans u1 (gfr_mono g2 (fun c k e => by unfold slF at e; omega) (fun c e => by unfold slR at e; omega))
/-- what load leaves of the text's outcome -/
def ldQ (tx : Nat → Int) (n : Nat) (z : Int) (s' : im_S) : Prop := ∃ R, RDo tx n R ∧ z = fou R ∧ s'.1 0 1 = fou R ∧ s'.1 0 2 = plo R ∧ s'.1 0 3 = kno R ∧ ∀ j A, R = .inr (j, A) → tat s' A
theorem load_w {tx : Nat → Int} {n : Nat} {s : im_S} {Q : Int → im_S → Prop} (hk : kp1 s) (hd : dI s) (hl : s.1 0 0 = (n : Int)) (hn : n ≤ 400) (h3 : gln 3 = 400) (ht : ∀ k, k < n → s.2 3 k = tx k) (hr : ∀ k, k < n → 32 ≤ tx k ∧ tx k ≤ 126) (hQ : ∀ z s', ldQ tx n z s' → Q z s') : C_load9w s Q := by
  intro s1 e1
  have g1 : gfr (fun c k => c = 0) (fun _ => False) s s1 := by subst e1; exact gfr_pf (gfr_refl _ _ _) rfl
  have k1 : kp1 s1 := kp1_co hk g1 (fun c k e => by omega) (fun c e => e.elim) (fun k => by omega) (fun k => by omega) (fun z => z) (fun z => z)
  refine ⟨fun _ s2 => RK s1 s2, fun z s2 => rdQ tx n z s2, read_k k1.1 (fun z s2 h2 => h2), read_v hl hn h3 (by rw [show s1.2 = s.2 by subst e1; rfl]; exact ht) hr (fun z s2 h => h), fun z s2 h2 hv2 => ?_⟩
  intro s3 e3 v ev s4 e4 w ew s5 e5
  obtain ⟨R, hR, zR, pR, tR⟩ := hv2
  have g2 := h2.2.2.2
  have k2 : kp1 s2 := by
    obtain ⟨a, ⟨lo, hi, mi, ot, b⟩, c, d⟩ := k1
    exact ⟨h2.1, ⟨lo, hi, mi, ot, fq_co b g2 (fun k => by omega)⟩, big_co c (g2.1 _ _ (by omega)) (g2.1 _ _ (by omega)) (g2.2 _ (by omega)), big_co d (g2.1 _ _ (by omega)) (g2.1 _ _ (by omega)) (g2.2 _ (by omega))⟩
  have g5 : gfr (fun c k => c = 0) (fun _ => False) s2 s5 := by subst e5; subst e4; subst e3; exact gfr_pf (gfr_pf (gfr_pf (gfr_refl _ _ _) rfl) rfl) rfl
  have k5 : kp1 s5 := kp1_co k2 g5 (fun c k e => by omega) (fun c e => e.elim) (fun k => by omega) (fun k => by omega) (fun z => z) (fun z => z)
  have d5 : dI s5 := dI_co (dI_co (dI_co hd g1 (by omega) (by omega)) g2 (by omega) (by omega)) g5 (by omega) (by omega)
  have a5 : atb s5 := by
    obtain ⟨a1, a2, a3⟩ := h2.2.1
    have e : s5.1 2 11 = s2.1 2 11 := g5.1 _ _ (by omega)
    exact ⟨by omega, by omega, fun i hi => pok_fr (a3 i (by omega)) g5 (by omega) (fun z => z)⟩
  have z3 : cgf s3 0 1 = z := by rw [e3]; exact cpf_same _ _ _ _
  have z4 : cgf s4 0 1 = z := by rw [e4]; exact (cpf_ne (by omega)).trans z3
  have z5 : s5.1 0 1 = fou R := by rw [e5, cpf_ne (by omega)]; exact z4.trans zR
  have p5 : s5.1 0 2 = plo R := by
    rw [e5, cpf_ne (by omega), e4, cpf_same, ev, z3, zR]
    cases R with
    | inl e =>
      have := pR e rfl
      rw [if_pos (show ¬ fou (.inl e) = 0 from this.1)]
      rw [e3]
      exact (cpf_ne (by omega)).trans this.2
    | inr q => rw [if_neg (fun c => c rfl)]; rfl
  have o5 : s5.1 0 3 = kno R := by
    rw [e5, cpf_same, ew, z4, zR]
    cases R with
    | inl e => rw [if_pos (show ¬ fou (.inl e) = 0 from (pR e rfl).1)]; rfl
    | inr q => rw [if_neg (fun c => c rfl)]; rfl
  have t5 : ∀ j A, R = .inr (j, A) → tat s5 A := fun j A e => tat_fr (tR j A e) g5 (by omega) (fun i hi => by omega) (fun i hi z => z) (fun z => z)
  have fin : ∀ z s', z = s5.1 0 1 → upf s5 s' → Q z s' := fun z s' ez u => hQ _ _ ⟨R, hR, ez.trans z5, (u.1 _ _ (by omega)).trans z5, (u.1 _ _ (by omega)).trans p5, (u.1 _ _ (by omega)).trans o5, fun j A e => tat_fr (t5 j A e) u (by omega) (fun i hi => by omega) (fun i hi => by omega) (by omega)⟩
  refine ⟨fun _ s6 e6 => ?_, fun _ => fin _ _ rfl (gfr_refl _ _ _)⟩
  have g6 : gfr (fun c k => c = 84 ∧ k = 2) (fun _ => False) s5 s6 := by subst e6; exact gfr_pf (gfr_refl _ _ _) ⟨rfl, rfl⟩
  have u6 : upf s5 s6 := gfr_mono g6 (fun c k e => by omega) (fun c e => e.elim)
  have B6 : BI s6 0 ((8 : Int) * ((0 : Nat) : Int)) := ⟨by subst e6; rw [cpf_same]; rfl, by omega, fun e he => by omega, by show (0 : Int) ≤ _; omega, dI_co d5 g6 (by omega) (by omega)⟩
  have k6 : kp1 s6 := kp1_co k5 g6 (fun c k e => by omega) (fun c e => e.elim) (fun k => by omega) (fun k => by omega) (fun z => z) (fun z => z)
  obtain ⟨a1, a2, a3⟩ := a5
  obtain ⟨m, hm⟩ : ∃ m : Nat, s5.1 2 11 = (m : Int) := ⟨(s5.1 2 11).toNat, by omega⟩
  refine ⟨fun a => ∃ i n : Nat, a.1 = (i : Int) ∧ i ≤ m ∧ BI a.2 n ((8 : Int) * (i : Int)) ∧ a.2.1 2 11 = (m : Int) ∧ (∀ j : Nat, j < m → pok a.2 (61 + 2 * j)) ∧ kp1 a.2 ∧ upf s5 a.2, ⟨0, 0, rfl, by omega, B6, by rw [g6.1 _ _ (by omega)]; exact hm, fun j hj => pok_fr (a3 j (by omega)) g6 (by omega) (fun z => z), k6, u6⟩, ?_⟩
  rintro ⟨x, s7⟩ ⟨i, n, e, im, B7, m7, a7, k7, u7⟩
  dsimp only at e B7 m7 a7 k7 u7 ⊢
  subst e
  have m10 : m ≤ 10 := by omega
  refine ⟨fun c s8 e8 => ?_, fun c => ?_⟩
  · have g8 : gfr (fun c k => c = 83 ∧ k = 3) (fun _ => False) s7 s8 := by subst e8; exact gfr_pf (gfr_refl _ _ _) ⟨rfl, rfl⟩
    have B8 := BI_co B7 g8 (fun e he => by omega) (fun e he => fun z => z) (by omega) (dI_co B7.2.2.2.2 g8 (by omega) (by omega))
    obtain ⟨b1, b2, b3, b4, b5⟩ := B8
    obtain ⟨c1, ⟨lo, hi, mi, ot, c2⟩, c3, c4⟩ := k7
    have c2' : fq s8 lo hi mi ot := by
      unfold fq
      rw [g8.1 83 13 (by omega), g8.1 83 14 (by omega), g8.1 83 15 (by omega), g8.1 83 16 (by omega)]
      exact c2
    exact lw_135 (s0 := s5) (n := n) ⟨b1, b2, b3, by omega, b5⟩ (by subst e8; rw [cpf_same]) ⟨slb_fr c1 g8 (fun c k e => by omega) (fun c e => e.elim), ⟨lo, hi, mi, ot, c2'⟩, big_co c3 (g8.1 _ _ (by omega)) (g8.1 _ _ (by omega)) (g8.2 _ (fun z => z)), big_co c4 (g8.1 _ _ (by omega)) (g8.1 _ _ (by omega)) (g8.2 _ (fun z => z))⟩ (gfr_trans u7 (gfr_mono g8 (fun c k e => by omega) (fun c e => e.elim))) fin
  · have im' : i < m := by unfold cgf at c; omega
    obtain ⟨F, F1, F2⟩ := a7 i im'
    rw [Int.toNat_natCast]
    refine addAtom_b (D' := 8 * ((i + 1 : Nat) : Int)) B7 F1 F2 (by omega) (by omega) (by omega) (fun s8 n8 B8 g8 => ?_)
    refine ⟨i + 1, n8, w32s (by omega), by omega, B8, by rw [g8.1 _ _ (by omega)]; exact m7, fun j hj => pok_fr (a7 j hj) g8 (by omega) (by omega), ?_, ?_⟩
    · exact kp1_co k7 g8 (fun c k e => by omega) (fun c e => by omega) (fun k => by omega) (fun k => by omega) (by omega) (by omega)
    · exact gfr_trans u7 (gfr_mono g8 (fun c k e => by omega) (fun c e => by omega))
