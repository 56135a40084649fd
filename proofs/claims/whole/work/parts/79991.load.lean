/-! THE CLASS'S load: what it leaves of the roots -/
theorem rootAt_k {x : Int} {s : im_S} {Q : Nat → im_S → Prop} (hQ : ∀ r, Q r s) : C_rootAt4 x s Q := min_J (max_J (fun _ => hQ _))
theorem mult_k {x y : Int} {s : im_S} {Q : Int → im_S → Prop} (hQ : ∀ z, Q z s) : C_multiplicity0 x y s Q := fun _ => hQ _
def fcf (s s' : im_S) : Prop := gfr (fun c _ => c = 1) (fun c => 578 ≤ c ∧ c ≤ 581) s s'
theorem trueAtoms_k {x : Int} {s : im_S} {Q : Int → im_S → Prop} (hQ : ∀ z, Q z s) : C_trueAtoms4 x s Q := by
  refine ⟨fun a => a.2.2 = s, rfl, ?_⟩
  rintro ⟨u, v, s1⟩ e
  dsimp only at e ⊢
  subst e
  exact ⟨fun _ => hQ _, fun _ _ _ _ _ _ => rfl⟩
theorem fulfilled_k {x : Int} {s : im_S} {Q : Int → im_S → Prop} (hQ : ∀ z, Q z s) : C_fulfilledBy7 x s Q := by
  refine ⟨fun a => a.2.2 = s, rfl, ?_⟩
  rintro ⟨u, v, s1⟩ e
  dsimp only at e ⊢
  subst e
  exact ⟨fun _ _ _ => hQ _, fun _ _ _ _ => rfl⟩
theorem fillSigns_k {x : Int} {s0 s : im_S} {Q : im_S → Prop} (h : fcf s0 s) (hQ : ∀ s', fcf s0 s' → Q s') : C_fillSigns4 x s Q := by
  unfold C_fillSigns4 C_lead6
  intro v ev
  intro v1 e1 s1 es
  refine ⟨fun a => fcf s0 a.2.2, by subst es; exact gfr_pa h (by omega), ?_⟩
  rintro ⟨u, v, s2⟩ h2
  dsimp only at h2 ⊢
  refine ⟨fun _ => hQ _ h2, fun _ => rootAt_k (fun r => mult_k (fun z w ew s3 e3 w2 ew2 s4 e4 => ?_))⟩
  subst e4; subst e3
  exact gfr_pa (gfr_pa h2 (by omega)) (by omega)
theorem fillCells_k {s : im_S} {Q : im_S → Prop} (hQ : ∀ s', fcf s s' → Q s') : C_fillCells4 s Q := by
  unfold C_fillCells4
  generalize w32 (w32 (2 * cgf s 1 4) + 1) = n
  refine ⟨fun a => fcf s a.2, gfr_refl _ _ _, ?_⟩
  rintro ⟨x, s1⟩ h1
  dsimp only at h1 ⊢
  refine ⟨fun _ s2 e2 s3 e3 s4 e4 s5 e5 => ?_, fun _ => fillSigns_k h1 (fun s2 h2 => h2)⟩
  have h5 : fcf s s5 := by subst e5; subst e4; subst e3; subst e2; exact gfr_pf (gfr_pf (gfr_pf (gfr_pf h1 rfl) rfl) rfl) rfl
  refine ⟨fun a => fcf s a.2, h5, ?_⟩
  rintro ⟨y, s6⟩ h6
  dsimp only at h6 ⊢
  refine ⟨fun _ => hQ _ h6, fun _ _ s7 e7 => trueAtoms_k (fun z => fulfilled_k (fun z2 s8 e8 => ?_))⟩
  have h8 : fcf s s8 := by subst e8; subst e7; exact gfr_pa (gfr_pa h6 (by omega)) (by omega)
  refine ⟨fun _ => h8, fun _ w ew s9 e9 w2 ew2 s10 e10 s11 e11 s12 e12 => ?_⟩
  subst e12; subst e11; subst e10; subst e9
  exact gfr_pf (gfr_pf (gfr_pf (gfr_pf h8 rfl) rfl) rfl) rfl
theorem read_k {l : Int} {s : im_S} {Q : Int → im_S → Prop} (h : slb s) (hQ : ∀ z s', RK s s' → Q z s') : C_read7 l s Q := by
  refine min_J (fun s1 e1 s2 e2 s3 e3 s4 e4 s5 e5 s6 e6 => ?_)
  have f6 : gfr (fun c _ => c = 2) (fun _ => False) s s6 := by
    subst e6; subst e5; subst e4; subst e3; subst e2; subst e1
    exact gfr_pf (gfr_pf (gfr_pf (gfr_pf (gfr_pf (gfr_pf (gfr_refl _ _ _) rfl) rfl) rfl) rfl) rfl) rfl
  have a6 : s6.1 2 11 = 0 := by subst e6; subst e5; rw [cpf_ne (by omega), cpf_same]
  have b6 : s6.1 2 2 = 0 := by subst e6; subst e5; subst e4; subst e3; subst e2; rw [cpf_ne (by omega), cpf_ne (by omega), cpf_ne (by omega), cpf_ne (by omega), cpf_same]
  have h6 : RK s s6 := ⟨slb_2 h (fun i hi => f6.1 _ _ (by omega)) (fun i hi => f6.2 _ (fun z => z)), ⟨by omega, by omega, fun i hi => by omega⟩, by rw [b6]; exact ⟨by decide, by decide⟩, gfr_mono f6 (fun c k e => by omega) (fun c e => e.elim)⟩
  refine look_k h6 (fun s7 h7 => CK_k h7 (fun s8 h8 => ⟨fun _ => hQ _ _ h8, fun _ => fail_k h8 (by decide) (fun s9 h9 _ _ => hQ _ _ h9)⟩))
/-- the root j is a fraction with a denominator, or none -/
def rtp9 (s : im_S) (j : Nat) : Prop := s.1 (311 + 3 * j) 1 = 0 ∨ 1 ≤ s.1 (311 + 3 * j) 3
theorem rtp9_co {F : Nat → Nat → Prop} {R : Nat → Prop} {s s' : im_S} {j : Nat} (h : rtp9 s j) (f : gfr F R s s') (h1 : ¬ F (311 + 3 * j) 1) (h2 : ¬ F (311 + 3 * j) 3) : rtp9 s' j := by
  unfold rtp9
  rw [f.1 _ _ h1, f.1 _ _ h2]; exact h
theorem rgo_rp {s : im_S} {n j : Nat} (h : rgo s n j) : rtp9 s j := by
  rcases h with h | ⟨e, P, l, r, _, _, _, h⟩
  · exact Or.inr h.2
  · exact Or.inl h.1
theorem slb_fr {F : Nat → Nat → Prop} {R : Nat → Prop} {s s' : im_S} (h : slb s) (f : gfr F R s s') (h1 : ∀ c k, F c k → c < 3 ∨ 83 ≤ c) (h2 : ∀ c, R c → c < 4 ∨ 83 ≤ c) : slb s' :=
  slb_2 h (fun i hi => f.1 _ _ (fun z => by have := h1 _ _ z; omega)) (fun i hi => f.2 _ (fun z => by have := h2 _ z; omega))
/-- what is kept all through load: slots, numbers, the two ones -/
def kp1 (s : im_S) : Prop := slb s ∧ (∃ lo hi mi ot, fq s lo hi mi ot) ∧ big s 308 1 ∧ big s 553 1
theorem kp1_co {F : Nat → Nat → Prop} {R : Nat → Prop} {s s' : im_S} (h : kp1 s) (f : gfr F R s s') (h1 : ∀ c k, F c k → c < 3 ∨ 84 ≤ c) (h2 : ∀ c, R c → c < 4 ∨ 83 ≤ c) (h3 : ∀ k, ¬ F 308 k) (h4 : ∀ k, ¬ F 553 k) (h5 : ¬ R 309) (h6 : ¬ R 554) : kp1 s' := by
  obtain ⟨a, ⟨lo, hi, mi, ot, b⟩, c, d⟩ := h
  exact ⟨slb_fr a f (fun c k e => by have := h1 c k e; omega) h2, ⟨lo, hi, mi, ot, fq_co b f (fun k z => by have := h1 _ _ z; omega)⟩, big_co c (f.1 _ _ (h3 _)) (f.1 _ _ (h3 _)) (f.2 _ h5), big_co d (f.1 _ _ (h4 _)) (f.1 _ _ (h4 _)) (f.2 _ h6)⟩
theorem kp1_fq {F : Nat → Nat → Prop} {R : Nat → Prop} {s s' : im_S} (h : kp1 s) (hf : ∃ lo hi mi ot, fq s' lo hi mi ot) (f : gfr F R s s') (h1 : ∀ c k, F c k → c < 3 ∨ 83 ≤ c) (h2 : ∀ c, R c → c < 4 ∨ 83 ≤ c) (h3 : ∀ k, ¬ F 308 k) (h4 : ∀ k, ¬ F 553 k) (h5 : ¬ R 309) (h6 : ¬ R 554) : kp1 s' := by
  obtain ⟨a, _, c, d⟩ := h
  exact ⟨slb_fr a f h1 h2, hf, big_co c (f.1 _ _ (h3 _)) (f.1 _ _ (h3 _)) (f.2 _ h5), big_co d (f.1 _ _ (h4 _)) (f.1 _ _ (h4 _)) (f.2 _ h6)⟩
theorem dsp_le {s : im_S} {n : Nat} (h : ∀ e, e < n → pce s e) : ∀ m : Nat, m ≤ n → ∀ e, e ≤ m → dsp s e ≤ dsp s m
  | 0, _, e, he => by rw [show e = 0 by omega]; omega
  | m + 1, hm, e, he => by
    by_cases c : e = m + 1
    · rw [c]; omega
    · have := dsp_le h m (by omega) e (by omega)
      obtain ⟨P, _, _, p3⟩ := h m (by omega)
      show _ ≤ dsp s m + s.1 (86 + 2 * m) 0
      omega
/-- the last loop -/
theorem load_164 {s : im_S} {n N : Nat} {Q : Int → im_S → Prop} (hB : BI s n 80) (hN : N ≤ 80) (hf : s.1 83 3 = (N : Int)) (hz : s.1 1 4 = 0) (hr : ∀ k, k < N → rgo s n k) (hp : ∀ j, N ≤ j → j < 80 → rtp9 s j) (hk : kp1 s) (hQ : ∀ z s', kp1 s' → (∀ j, j < 80 → rtp9 s' j) → Q z s') : ploop (fun (K : Int × im_S → Prop) (a : Int × im_S) => C_load9_164 K a.1 a.2 Q) (0, s) := by
  refine ⟨fun a => ∃ i : Nat, a.1 = (i : Int) ∧ i ≤ N ∧ BI a.2 n 80 ∧ a.2.1 83 3 = (N : Int) ∧ a.2.1 1 4 = (i : Int) ∧ odk a.2 N i ∧ (∀ k, k < N → rgo a.2 n k) ∧ (∀ j, N ≤ j → j < 80 → rtp9 a.2 j) ∧ kp1 a.2, ⟨0, rfl, by omega, hB, hf, hz, fun i hi => by omega, hr, hp, hk⟩, ?_⟩
  rintro ⟨x, s1⟩ ⟨i, e, iN, B1, f1, z1, o1, r1, p1, k1⟩
  dsimp only at e B1 f1 z1 o1 r1 p1 k1 ⊢
  subst e
  refine ⟨fun _ => fillCells_k (fun s2 g2 => hQ _ _ ?_ (fun j j80 => ?_)), fun c => ?_⟩
  · exact kp1_co k1 g2 (fun c k e => by omega) (fun c e => by omega) (fun k => by omega) (fun k => by omega) (by omega) (by omega)
  · refine rtp9_co ?_ g2 (by omega) (by omega)
    by_cases c : j < N
    · exact rgo_rp (r1 j c)
    · exact p1 j (by omega) j80
  · have iN' : i < N := by unfold cgf at c; omega
    refine insert_b B1 hN iN' z1 (by omega) o1 r1 k1.2.1 k1.2.2.2 (fun s2 r2 B2 q2 z2 o2 g2 => ?_)
    refine ⟨i + 1, w32s (by omega), by omega, B2, ?_, z2, o2, r2, fun j hj j80 => ?_, ?_⟩
    · rw [g2.1 _ _ (by unfold inF cdF; omega)]; exact f1
    · exact rtp9_co (p1 j hj j80) g2 (by unfold inF cdF; omega) (by unfold inF cdF; omega)
    · exact kp1_fq k1 q2 g2 (fun c k e => by unfold inF cdF at e; omega) (fun c e => by unfold inR cdR at e; omega) (fun k => by unfold inF cdF; omega) (fun k => by unfold inF cdF; omega) (by unfold inR cdR; omega) (by unfold inR cdR; omega)
def rg2 (s : im_S) (e i : Nat) : Prop := lfF s i ∨ ∃ e2 P l r, e2 < e ∧ ply s (86 + 2 * e2) P ∧ pat P ∧ lfS s i e2 P l r
theorem load_135 {s : im_S} {n : Nat} {Q : Int → im_S → Prop} (hB : BI s n 80) (hf : s.1 83 3 = 0) (hp : ∀ j, j < 80 → rtp9 s j) (hk : kp1 s) (hQ : ∀ z s', kp1 s' → (∀ j, j < 80 → rtp9 s' j) → Q z s') : ploop (fun (K : Int × im_S → Prop) (a : Int × im_S) => C_load9_135 K (cgf s 84 2) a.1 a.2 Q) (0, s) := by
  have n80 := hB.2.1
  rw [show cgf s 84 2 = (n : Int) from hB.1]
  refine ⟨fun a => ∃ e n1 f : Nat, a.1 = (e : Int) ∧ e ≤ n ∧ n ≤ n1 ∧ BI a.2 n1 80 ∧ a.2.1 83 3 = (f : Int) ∧ (f : Int) ≤ dsp s e ∧ (∀ e', e ≤ e' → e' < n → ∀ P, ply s (86 + 2 * e') P → ply a.2 (86 + 2 * e') P) ∧ (∀ k, k < f → rg2 a.2 e k) ∧ (∀ j, f ≤ j → j < 80 → rtp9 a.2 j) ∧ kp1 a.2, ⟨0, n, 0, rfl, by omega, Nat.le_refl _, hB, hf, Int.le_refl _, fun e' _ _ P h => h, fun k hk => by omega, fun j _ => hp j, hk⟩, ?_⟩
  rintro ⟨x, s1⟩ ⟨e, n1, f, ex, en, nn, B1, f1, fd, pl, r1, p1, k1⟩
  dsimp only at ex B1 f1 fd pl r1 p1 k1 ⊢
  subst ex
  have dn := dsp_le hB.2.2.1 n (Nat.le_refl _)
  have d80 := hB.2.2.2.1
  refine ⟨fun c s2 e2 => ?_, fun c => ?_⟩
  · have g2 : gfr (fun c k => c = 1 ∧ k = 4) (fun _ => False) s1 s2 := by subst e2; exact gfr_pf (gfr_refl _ _ _) ⟨rfl, rfl⟩
    have f80 : f ≤ 80 := by have := dn e en; omega
    refine load_164 (n := n1) (N := f) (BI_co B1 g2 (fun e he => by omega) (fun e he => fun z => z) (by omega) (dI_co B1.2.2.2.2 g2 (by omega) (by omega))) f80 (by rw [g2.1 _ _ (by omega)]; exact f1) (by subst e2; rw [cpf_same]) (fun k hk => ?_) (fun j hj j80 => rtp9_co (p1 j hj j80) g2 (by omega) (by omega)) (kp1_co k1 g2 (fun c k e => by omega) (fun c e => e.elim) (fun k => by omega) (fun k => by omega) (fun z => z) (fun z => z)) hQ
    rcases r1 k hk with h | ⟨e2, P, l, r, a1, a2, a3, a4⟩
    · exact Or.inl (lfF_co h g2 (fun k => by omega))
    · exact Or.inr ⟨e2, P, l, r, by omega, ply_fr a2 g2 (by omega) (fun z => z), a3, lfS_co a4 g2 (fun k => by omega) (fun k => by omega) (fun z => z)⟩
  · have en' : e < n := by omega
    obtain ⟨P, q1, q2, q3⟩ := hB.2.2.1 e en'
    have q4 := pl e (Nat.le_refl _) en' P q1
    have dd : s1.1 (86 + 2 * e) 0 = s.1 (86 + 2 * e) 0 := dgo_u q4.2 q1.2
    obtain ⟨d, hd⟩ : ∃ d : Nat, s.1 (86 + 2 * e) 0 = (d : Int) := ⟨(s.1 (86 + 2 * e) 0).toNat, by omega⟩
    have de : dsp s (e + 1) = dsp s e + d := by show dsp s e + _ = _; rw [hd]
    have d1 := dn (e + 1) (by omega)
    refine solve_b B1 (by omega) (by omega) q4 q2 (dd.trans hd) f1 (by omega) k1.2.1 k1.2.2.1 k1.2.2.2 (fun s2 n2 m h1 h2 B2 fq2 ps2 lf2 f2 g2 => ?_)
    refine ⟨e + 1, n2, f + m, w32s (by omega), by omega, by omega, B2, f2, by omega, fun e' h3 h4 P' hP' => ps2 e' (by omega) (by omega) P' (pl e' (by omega) h4 P' hP'), fun k hk => ?_, fun j hj j80 => ?_, ?_⟩
    · by_cases ck : k < f
      · rcases r1 k ck with h | ⟨e2, P2, l, r, a1, a2, a3, a4⟩
        · exact Or.inl (lfF_co h g2 (fun k => by unfold slF; omega))
        · exact Or.inr ⟨e2, P2, l, r, by omega, ps2 e2 (by omega) (by omega) P2 a2, a3, lfS_co a4 g2 (fun k => by unfold slF; omega) (fun k => by unfold slF; omega) (by unfold slR; omega)⟩
      · have := lf2 (k - f) (by omega)
        rw [show f + (k - f) = k by omega] at this
        rcases this with h | ⟨P2, l, r, a2, a3, a4⟩
        · exact Or.inl h
        · exact Or.inr ⟨e, P2, l, r, by omega, a2, a3, a4⟩
    · exact rtp9_co (p1 j (by omega) j80) g2 (by unfold slF; omega) (by unfold slF; omega)
    · exact kp1_fq k1 fq2 g2 (fun c k e => by unfold slF at e; omega) (fun c e => by unfold slR at e; omega) (fun k => by unfold slF; omega) (fun k => by unfold slF; omega) (by unfold slR; omega) (by unfold slR; omega)
theorem load_k {s : im_S} {Q : Int → im_S → Prop} (hp : ∀ j, j < 80 → rtp9 s j) (hk : kp1 s) (hd : dI s) (hQ : ∀ z s', kp1 s' → (∀ j, j < 80 → rtp9 s' j) → Q z s') : C_load9 s Q := by
  intro s1 e1
  have g1 : gfr (fun c k => c = 0) (fun _ => False) s s1 := by subst e1; exact gfr_pf (gfr_refl _ _ _) rfl
  have k1 : kp1 s1 := kp1_co hk g1 (fun c k e => by omega) (fun c e => e.elim) (fun k => by omega) (fun k => by omega) (fun z => z) (fun z => z)
  refine read_k k1.1 (fun z s2 h2 s3 e3 v ev s4 e4 w ew s5 e5 => ?_)
  have g2 := h2.2.2.2
  have k2 : kp1 s2 := by
    obtain ⟨a, ⟨lo, hi, mi, ot, b⟩, c, d⟩ := k1
    exact ⟨h2.1, ⟨lo, hi, mi, ot, fq_co b g2 (fun k => by omega)⟩, big_co c (g2.1 _ _ (by omega)) (g2.1 _ _ (by omega)) (g2.2 _ (by omega)), big_co d (g2.1 _ _ (by omega)) (g2.1 _ _ (by omega)) (g2.2 _ (by omega))⟩
  have g5 : gfr (fun c k => c = 0) (fun _ => False) s2 s5 := by subst e5; subst e4; subst e3; exact gfr_pf (gfr_pf (gfr_pf (gfr_refl _ _ _) rfl) rfl) rfl
  have k5 : kp1 s5 := kp1_co k2 g5 (fun c k e => by omega) (fun c e => e.elim) (fun k => by omega) (fun k => by omega) (fun z => z) (fun z => z)
  have p5 : ∀ j, j < 80 → rtp9 s5 j := fun j hj80 => rtp9_co (rtp9_co (rtp9_co (hp j hj80) g1 (by omega) (by omega)) g2 (by omega) (by omega)) g5 (by omega) (by omega)
  have d5 : dI s5 := dI_co (dI_co (dI_co hd g1 (by omega) (by omega)) g2 (by omega) (by omega)) g5 (by omega) (by omega)
  have a5 : atb s5 := by
    obtain ⟨a1, a2, a3⟩ := h2.2.1
    have e : s5.1 2 11 = s2.1 2 11 := g5.1 _ _ (by omega)
    exact ⟨by omega, by omega, fun i hi => pok_fr (a3 i (by omega)) g5 (by omega) (fun z => z)⟩
  refine ⟨fun _ s6 e6 => ?_, fun _ => hQ _ _ k5 p5⟩
  have g6 : gfr (fun c k => c = 84 ∧ k = 2) (fun _ => False) s5 s6 := by subst e6; exact gfr_pf (gfr_refl _ _ _) ⟨rfl, rfl⟩
  have B6 : BI s6 0 ((8 : Int) * ((0 : Nat) : Int)) := ⟨by subst e6; rw [cpf_same]; rfl, by omega, fun e he => by omega, by show (0 : Int) ≤ _; omega, dI_co d5 g6 (by omega) (by omega)⟩
  have k6 : kp1 s6 := kp1_co k5 g6 (fun c k e => by omega) (fun c e => e.elim) (fun k => by omega) (fun k => by omega) (fun z => z) (fun z => z)
  obtain ⟨a1, a2, a3⟩ := a5
  obtain ⟨m, hm⟩ : ∃ m : Nat, s5.1 2 11 = (m : Int) := ⟨(s5.1 2 11).toNat, by omega⟩
  refine ⟨fun a => ∃ i n : Nat, a.1 = (i : Int) ∧ i ≤ m ∧ BI a.2 n ((8 : Int) * (i : Int)) ∧ a.2.1 2 11 = (m : Int) ∧ (∀ j : Nat, j < m → pok a.2 (61 + 2 * j)) ∧ (∀ j, j < 80 → rtp9 a.2 j) ∧ kp1 a.2, ⟨0, 0, rfl, by omega, B6, by rw [g6.1 _ _ (by omega)]; exact hm, fun j hj => pok_fr (a3 j (by omega)) g6 (by omega) (fun z => z), fun j j80 => rtp9_co (p5 j j80) g6 (by omega) (by omega), k6⟩, ?_⟩
  rintro ⟨x, s7⟩ ⟨i, n, e, im, B7, m7, a7, p7, k7⟩
  dsimp only at e B7 m7 a7 p7 k7 ⊢
  subst e
  have m10 : m ≤ 10 := by omega
  refine ⟨fun c s8 e8 => ?_, fun c => ?_⟩
  · have g8 : gfr (fun c k => c = 83 ∧ k = 3) (fun _ => False) s7 s8 := by subst e8; exact gfr_pf (gfr_refl _ _ _) ⟨rfl, rfl⟩
    have B8 := BI_co B7 g8 (fun e he => by omega) (fun e he => fun z => z) (by omega) (dI_co B7.2.2.2.2 g8 (by omega) (by omega))
    obtain ⟨b1, b2, b3, b4, b5⟩ := B8
    obtain ⟨c1, ⟨lo, hi, mi, ot, c2⟩, c3, c4⟩ := k7
    have c2' : fq s8 lo hi mi ot := by
      unfold fq
      rw [g8.1 83 13 (by omega), g8.1 83 14 (by omega), g8.1 83 15 (by omega), g8.1 83 16 (by omega)]
      exact c2
    exact load_135 (n := n) ⟨b1, b2, b3, by omega, b5⟩ (by subst e8; rw [cpf_same]) (fun j j80 => rtp9_co (p7 j j80) g8 (by omega) (by omega)) ⟨slb_fr c1 g8 (fun c k e => by omega) (fun c e => e.elim), ⟨lo, hi, mi, ot, c2'⟩, big_co c3 (g8.1 _ _ (by omega)) (g8.1 _ _ (by omega)) (g8.2 _ (fun z => z)), big_co c4 (g8.1 _ _ (by omega)) (g8.1 _ _ (by omega)) (g8.2 _ (fun z => z))⟩ hQ
  · have im' : i < m := by unfold cgf at c; omega
    obtain ⟨F, F1, F2⟩ := a7 i im'
    rw [Int.toNat_natCast]
    refine addAtom_b (D' := 8 * ((i + 1 : Nat) : Int)) B7 F1 F2 (by omega) (by omega) (by omega) (fun s8 n8 B8 g8 => ?_)
    refine ⟨i + 1, n8, w32s (by omega), by omega, B8, by rw [g8.1 _ _ (by omega)]; exact m7, fun j hj => pok_fr (a7 j hj) g8 (by omega) (by omega), fun j j80 => rtp9_co (p7 j j80) g8 (by omega) (by omega), ?_⟩
    exact kp1_co k7 g8 (fun c k e => by omega) (fun c e => by omega) (fun k => by omega) (fun k => by omega) (by omega) (by omega)
