/-! THE READER: what it keeps -/
/-- the slots (and the base) hold factors within 10^9 -/
def slb (s : im_S) : Prop := (∀ i : Nat, i < 27 → s.1 (5 + 2 * i) 0 ≤ 8) ∧ ∀ i : Nat, i < 27 → ∀ k : Nat, k < 9 → -1000000000 ≤ s.2 (6 + 2 * i) k ∧ s.2 (6 + 2 * i) k ≤ 1000000000
/-- polynomial a is measured and within 10^9 -/
def pok (s : im_S) (a : Nat) : Prop := ∃ F, ply s a F ∧ pab F 1000000000
def atb (s : im_S) : Prop := 0 ≤ s.1 2 11 ∧ s.1 2 11 ≤ 10 ∧ ∀ i : Nat, (i : Int) < s.1 2 11 → pok s (61 + 2 * i)
def rdf (s s' : im_S) : Prop := gfr (fun c _ => 2 ≤ c ∧ c < 83) (fun c => 2 ≤ c ∧ c < 83) s s'
def RK (s0 s : im_S) : Prop := slb s ∧ atb s ∧ iR (s.1 2 2) ∧ rdf s0 s
def CK (s : im_S) (Q : im_S → Prop) : Prop := ∃ s0, RK s0 s ∧ ∀ s', RK s0 s' → Q s'
def rsF (c f : Nat) : Prop := (c = 2 ∧ f ≠ 11) ∨ (5 ≤ c ∧ c ≤ 57)
def rsR (c : Nat) : Prop := c = 59 ∨ c = 81 ∨ c = 82 ∨ (6 ≤ c ∧ c ≤ 58)
def rsf (s s' : im_S) : Prop := gfr rsF rsR s s'
theorem rsf_refl (s : im_S) : rsf s s := gfr_refl _ _ _
theorem rsf_trans {s s' s2 : im_S} (h : rsf s s') (h2 : rsf s' s2) : rsf s s2 := gfr_trans h h2
theorem pok_fr {F : Nat → Nat → Prop} {R : Nat → Prop} {s s' : im_S} {a : Nat} (h : pok s a) (f : gfr F R s s') (h1 : ¬ F a 0) (h2 : ¬ R (a + 1)) : pok s' a := by
  obtain ⟨P, p1, p2⟩ := h
  exact ⟨P, ply_fr p1 f h1 h2, p2⟩
theorem RK_rsf {s0 s s' : im_S} (h : RK s0 s) (f : rsf s s') (hs : slb s') (hi : iR (s'.1 2 2)) : RK s0 s' := by
  obtain ⟨_, ⟨a1, a2, a3⟩, _, h4⟩ := h
  have e : s'.1 2 11 = s.1 2 11 := f.1 _ _ (by unfold rsF; omega)
  refine ⟨hs, ⟨by rw [e]; exact a1, by rw [e]; exact a2, fun i hi => ?_⟩, hi, gfr_trans h4 (gfr_mono f (fun c k e => by unfold rsF at e; omega) (fun c e => by unfold rsR at e; omega))⟩
  rw [e] at hi
  exact pok_fr (a3 i hi) f (by unfold rsF; omega) (by unfold rsR; omega)
theorem slb_2 {s s' : im_S} (h : slb s) (e1 : ∀ i, i < 27 → s'.1 (5 + 2 * i) 0 = s.1 (5 + 2 * i) 0) (e : ∀ i, i < 27 → s'.2 (6 + 2 * i) = s.2 (6 + 2 * i)) : slb s' := ⟨fun i hi => by rw [e1 i hi]; exact h.1 i hi, fun i hi k hk => by rw [e i hi]; exact h.2 i hi k hk⟩
theorem RK_pf {s0 s : im_S} {f : Nat} {x : Int} (h : RK s0 s) (h1 : f ≠ 11) (h2 : f ≠ 2) : RK s0 (cpf s 2 f x) :=
  RK_rsf h (gfr_pf (rsf_refl _) (Or.inl ⟨rfl, h1⟩)) (slb_2 h.1 (fun i _ => cpf_ne (by omega)) (fun _ _ => rfl)) (by rw [cpf_ne (fun e => h2 e.2.symm)]; exact h.2.2.1)
theorem RK_at {s0 s : im_S} {x : Int} (h : RK s0 s) (hx : iR x) : RK s0 (cpf s 2 2 x) :=
  RK_rsf h (gfr_pf (rsf_refl _) (Or.inl ⟨rfl, by omega⟩)) (slb_2 h.1 (fun i _ => cpf_ne (by omega)) (fun _ _ => rfl)) (by rw [cpf_same]; exact hx)
theorem RK_pa {s0 s : im_S} {c : Nat} {i x : Int} (h : RK s0 s) (h1 : c = 59 ∨ c = 81 ∨ c = 82) : RK s0 (cpa s c i x) :=
  RK_rsf h (gfr_pa (rsf_refl _) (by unfold rsR; omega)) (slb_2 h.1 (fun _ _ => rfl) (fun j hj => cpa_ne (by omega))) h.2.2.1
theorem RK_ps {s0 s : im_S} {j : Nat} {i x : Int} (h : RK s0 s) (hj : j < 27) (h1 : -1000000000 ≤ x) (h2 : x ≤ 1000000000) : RK s0 (cpa s (5 + 2 * j + 1) i x) := by
  refine RK_rsf h (gfr_pa (rsf_refl _) (by unfold rsR; omega)) ⟨h.1.1, fun m hm k hk => ?_⟩ h.2.2.1
  by_cases c : m = j
  · subst c
    rw [show 6 + 2 * m = 5 + 2 * m + 1 by omega, cpa_row]
    split
    · exact ⟨h1, h2⟩
    · have := h.1.2 m hm k hk
      rw [show 6 + 2 * m = 5 + 2 * m + 1 by omega] at this
      exact this
  · rw [cpa_ne (by omega)]; exact h.1.2 m hm k hk
theorem RK_py {s0 s s' : im_S} {j : Nat} {F : List Int} (h : RK s0 s) (hj : j < 27) (f : pyf (5 + 2 * j) s s') (hF : ply s' (5 + 2 * j) F) (bF : pab F 1000000000) : RK s0 s' := by
  refine RK_rsf h (gfr_mono f (fun c k e => by unfold rsF; omega) (fun c e => by unfold rsR; omega)) ⟨fun m hm => ?_, fun m hm k hk => ?_⟩ (by rw [f.1 _ _ (by omega)]; exact h.2.2.1)
  · by_cases c : m = j
    · subst c; exact hF.2.2.1
    · rw [f.1 _ _ (by omega)]; exact h.1.1 m hm
  by_cases c : m = j
  · subst c
    rw [show 6 + 2 * m = 5 + 2 * m + 1 by omega, hF.1 k hk]
    have := bF k
    omega
  · rw [f.2 _ (by omega)]; exact h.1.2 m hm k hk
theorem fail_k {s0 s : im_S} {l1 l2 : Int} {Q : im_S → Prop} (h : RK s0 s) (h1 : l1 ≠ 0) (hQ : ∀ s', RK s0 s' → s'.1 2 4 ≠ 0 → s'.1 2 11 = s.1 2 11 → Q s') : C_fail7 l1 l2 s Q := by
  refine ⟨fun c s1 e1 => ?_, fun c s4 e4 s5 e5 s1 e1 => ?_⟩
  · subst e1
    refine hQ _ (RK_pf h (by omega) (by omega)) ?_ ?_
    · rw [cpf_ne (by omega)]; exact c
    · rw [cpf_ne (by omega)]
  · subst e1; subst e5; subst e4
    refine hQ _ (RK_pf (RK_pf (RK_pf h (by omega) (by omega)) (by omega) (by omega)) (by omega) (by omega)) ?_ ?_
    · rw [cpf_ne (by omega), cpf_ne (by omega), cpf_same]; exact h1
    · rw [cpf_ne (by omega), cpf_ne (by omega), cpf_ne (by omega)]
theorem isDigit_k {x : Int} {s : im_S} {Q : Int → im_S → Prop} (h1 : 48 ≤ x → x ≤ 57 → Q 1 s) (h2 : Q 0 s) : C_isDigit7 x s Q := by
  intro v e
  subst e
  split
  · exact h2
  · split
    · exact h2
    · exact h1 (by omega) (by omega)
theorem index2_k {x : Int} {s : im_S} {Q : Int → im_S → Prop} (hQ : ∀ z, Q z s) : C_J0_indexOf_0f7a4_0_2 x s Q := by
  intro v e
  rw [if_neg (by decide), if_neg (by decide)] at e
  subst e
  refine ⟨fun c => absurd c (by decide), fun _ w ew v2 e2 => ⟨fun _ => max_J (min_J ⟨fun _ => ?_, fun _ => hQ _⟩), fun _ => hQ _⟩⟩
  refine ⟨fun a => a.2 = s, rfl, ?_⟩
  rintro ⟨y, s1⟩ e1
  dsimp only at e1
  subst e1
  exact ⟨fun _ => hQ _, fun _ z _ => ⟨fun _ => rfl, fun _ => hQ _⟩⟩
theorem look_k {s0 s : im_S} {Q : im_S → Prop} (h : RK s0 s) (hQ : ∀ s', RK s0 s' → Q s') : C_look7 s Q := by
  refine ⟨fun a => RK s0 a, h, fun a ha => ?_⟩
  have e63 : ∀ k s1, RK s0 s1 → C_look7_63 k s1 Q := fun k s1 h1 s2 e2 => by
    have h2 : RK s0 s2 := by subst e2; exact RK_pf h1 (by omega) (by omega)
    refine ⟨fun _ => hQ _ h2, fun _ => isDigit_k (fun _ _ => ⟨fun _ => hQ _ h2, fun z => absurd z (by decide)⟩) ⟨fun z => absurd rfl z, fun _ => index2_k (fun z => ⟨fun _ => hQ _ h2, fun _ => fail_k h2 (by decide) (fun s3 h3 _ _ => hQ _ h3)⟩)⟩⟩
  have e38 : C_look7_38 a Q := ⟨fun _ => e63 _ _ ha, fun _ => e63 _ _ ha⟩
  refine ⟨fun _ => e38, fun _ => ⟨fun _ => e38, fun _ s1 e1 => ?_⟩⟩
  subst e1
  exact RK_at ha (w32_r _)
theorem step_k {s0 s : im_S} {Q : im_S → Prop} (h : RK s0 s) (hQ : ∀ s', RK s0 s' → Q s') : C_step7 s Q := by
  refine ⟨fun _ => hQ _ h, fun _ s1 e1 => ?_⟩
  subst e1
  exact look_k (RK_at h (w32_r _)) hQ
theorem expect_k {s0 s : im_S} {x : Int} {Q : im_S → Prop} (h : RK s0 s) (hQ : ∀ s', RK s0 s' → Q s') : C_expect7 x s Q :=
  ⟨fun _ => fail_k h (by decide) (fun s3 h3 _ _ => hQ _ h3), fun _ => step_k h hQ⟩
theorem emit_k {s0 s : im_S} {x : Int} {Q : im_S → Prop} (h : RK s0 s) (hQ : ∀ s', RK s0 s' → s'.1 2 11 = s.1 2 11 → s'.1 2 4 = s.1 2 4 → Q s') : C_emit7 x s Q := by
  refine ⟨fun _ => hQ _ h rfl rfl, fun _ _ s1 e1 s2 e2 => ?_⟩
  subst e2; subst e1
  refine hQ _ (RK_pf (RK_pa h (by omega)) (by omega) (by omega)) ?_ ?_
  · rw [cpf_ne (by omega)]; rfl
  · rw [cpf_ne (by omega)]; rfl
theorem slot_k {s : im_S} {x : Int} {Q : Nat → im_S → Prop} (hQ : ∀ j : Nat, j < 26 → Q (5 + 2 * j) s) : C_slot7 x s Q :=
  min_J (max_J (hQ _ (by omega)))
theorem readNumber_k {s0 s : im_S} {Q : Int → im_S → Prop} (h : RK s0 s) (hQ : ∀ z s', RK s0 s' → 0 ≤ z → z ≤ 999999 → Q z s') : C_readNumber7 s Q := by
  refine isDigit_k (fun _ _ => ⟨fun _ => ?_, fun z => absurd z (by decide)⟩) ⟨fun z => absurd rfl z, fun _ => fail_k h (by decide) (fun s3 h3 _ _ => hQ _ _ h3 (by omega) (by omega))⟩
  refine min_J ?_
  refine ⟨fun a => RK s0 a.2 ∧ ∃ t : Nat, t ≤ 6 ∧ a.2.1 2 2 = s.1 2 2 + t ∧ 0 ≤ a.1 ∧ a.1 < (10 : Int) ^ t, ⟨h, 0, by omega, (Int.add_zero _).symm, Int.le_refl 0, (by decide : (0 : Int) < 10 ^ 0)⟩, ?_⟩
  rintro ⟨x, s1⟩ ⟨h1, t, t6, et, x0, x1⟩
  dsimp only at h1 et x0 x1 ⊢
  have e10 : (10 : Int) ^ t ≤ 1000000 := by
    have : t = 0 ∨ t = 1 ∨ t = 2 ∨ t = 3 ∨ t = 4 ∨ t = 5 ∨ t = 6 := by omega
    rcases this with q | q | q | q | q | q | q <;> subst q <;> decide
  have e130 : C_readNumber7_130 x s1 Q := look_k h1 (fun s2 h2 => hQ _ _ h2 x0 (by omega))
  have e92 : C_readNumber7_92 x s1 Q := ⟨fun _ => e130, fun _ => isDigit_k (fun _ _ => ⟨fun z => absurd z (by decide), fun _ => fail_k h1 (by decide) (fun s3 h3 _ _ => hQ _ _ h3 x0 (by omega))⟩) ⟨fun _ => e130, fun z => absurd rfl z⟩⟩
  refine ⟨fun _ => e92, fun c => isDigit_k (fun d1 d2 => ⟨fun z => absurd z (by decide), fun _ s2 e2 => ?_⟩) ⟨fun _ => e92, fun z => absurd rfl z⟩⟩
  have i1 := h.2.2.1
  unfold iR at i1
  have t5 : t < 6 := by
    rw [show cgf s1 2 2 = s.1 2 2 + t from et] at c
    rw [show cgf s 2 2 = s.1 2 2 from rfl] at c
    by_cases q : s.1 2 2 + 6 ≤ 2147483647
    · rw [w32_id (by omega) q] at c
      omega
    · exfalso
      have := w32_r (s.1 2 2 + 6)
      have : w32 (s.1 2 2 + 6) = s.1 2 2 + 6 - 4294967296 := by
        unfold w32
        rw [Int32.toInt_ofInt]
        show Int.bmod (s.1 2 2 + 6) 4294967296 = _
        rw [Int.bmod_def]
        split <;> omega
      omega
  subst e2
  have e10' : (10 : Int) ^ t ≤ 100000 := by
    have : t = 0 ∨ t = 1 ∨ t = 2 ∨ t = 3 ∨ t = 4 ∨ t = 5 := by omega
    rcases this with q | q | q | q | q | q <;> subst q <;> decide
  refine ⟨RK_at h1 (w32_r _), t + 1, by omega, ?_, ?_, ?_⟩
  · rw [cpf_same]
    show w32 (s1.1 2 2 + 1) = _
    rw [et, w32_id (by omega) ?_]
    · omega
    · rw [show cgf s1 2 2 = s.1 2 2 + t from et] at c
      have := w32_r (cgf s 2 2 + 6)
      unfold iR at this
      omega
  · dsimp only
    rw [w32_id (x := x * 10) (by omega) (by omega), w32_id (x := cga s1 3 (cgf s1 2 2) - 48) (by omega) (by omega), w32_id (by omega) (by omega)]
    omega
  · dsimp only
    rw [w32_id (x := x * 10) (by omega) (by omega), w32_id (x := cga s1 3 (cgf s1 2 2) - 48) (by omega) (by omega), w32_id (by omega) (by omega), Int.pow_succ]
    omega
theorem negate_k {s0 s : im_S} {j : Nat} {Q : im_S → Prop} (h : RK s0 s) (hj : j < 27) (hQ : ∀ s', RK s0 s' → Q s') : C_negate7 (5 + 2 * j) s Q := by
  refine ⟨fun a => RK s0 a.2, h, ?_⟩
  rintro ⟨x, s1⟩ h1
  dsimp only at h1 ⊢
  refine ⟨fun _ => hQ _ h1, fun c ca _ s2 e2 => ?_⟩
  obtain ⟨⟨c1, c2⟩, _⟩ := ca
  have b := h1.1.2 j hj x.toNat (by omega)
  rw [show 6 + 2 * j = 5 + 2 * j + 1 by omega] at b
  subst e2
  refine RK_ps h1 hj ?_ ?_
  · show _ ≤ w64 (-(s1.2 (5 + 2 * j + 1) x.toNat)); rw [w64_id (by omega) (by omega)]; omega
  · show w64 (-(s1.2 (5 + 2 * j + 1) x.toNat)) ≤ _; rw [w64_id (by omega) (by omega)]; omega
/-- a row within 9 * 10^18 -/
def p18 (s : im_S) : Prop := ∀ k : Nat, k < 9 → -9000000000000000000 ≤ s.2 59 k ∧ s.2 59 k ≤ 9000000000000000000
theorem accept_k {s0 s : im_S} {j : Nat} {w : Int} {Q : im_S → Prop} (h : RK s0 s) (hj : j < 27) (hp : p18 s) (hQ : ∀ s', RK s0 s' → (s'.1 2 4 = 0 → pok s' (5 + 2 * j)) → s'.1 2 11 = s.1 2 11 → Q s') : C_accept7 (5 + 2 * j) w s Q := by
  refine ⟨fun f0 => ?_, fun f0 => hQ _ h (fun z => absurd z f0) rfl⟩
  refine ⟨fun a => ∃ i : Nat, a.1 = (i : Int) ∧ i ≤ 9 ∧ RK s0 a.2 ∧ a.2.1 2 4 = 0 ∧ p18 a.2 ∧ a.2.1 2 11 = s.1 2 11, ⟨0, rfl, by omega, h, f0, hp, rfl⟩, ?_⟩
  rintro ⟨x, s1⟩ ⟨i, e, i9, h1, f1, p1, a1⟩
  dsimp only at e h1 f1 p1 a1 ⊢
  subst e
  refine ⟨fun c => ?_, fun c _ => ?_⟩
  · refine measure_b (F := pmk 9 (s1.2 (5 + 2 * j + 1))) (fun i hi => ?_) ?_ (fun s3 h3 f3 e3 => ?_)
    · rw [pmk_gt, if_pos hi]
    · have := pdb_len (pmk 9 (s1.2 (5 + 2 * j + 1)))
      rw [pmk_len] at this; exact this
    · have bF : pab (pmk 9 (s1.2 (5 + 2 * j + 1))) 1000000000 := fun k => by
        rw [pmk_gt]
        split
        · rename_i k9
          have := h1.1.2 j hj k k9
          rw [show 6 + 2 * j = 5 + 2 * j + 1 by omega] at this
          omega
        · decide
      exact hQ _ (RK_py h1 hj f3 h3 bF) (fun _ => ⟨_, h3, bF⟩) (by rw [f3.1 _ _ (by omega)]; exact a1)
  · have b := p1 i (by omega)
    refine abs_J2 ?_ ?_ ⟨fun z _ _ s2 e2 => ?_, fun _ => fail_k h1 (by decide) (fun s3 h3 q a3 => hQ _ h3 (fun z => absurd z q) (a3.trans a1))⟩
    · show _ ≤ s1.2 59 ((i : Nat) : Int).toNat; rw [Int.toNat_natCast]; omega
    · show s1.2 59 ((i : Nat) : Int).toNat ≤ _; rw [Int.toNat_natCast]; omega
    · subst e2
      refine ⟨i + 1, w32s (by omega), by omega, RK_ps h1 hj ?_ ?_, f1, fun k hk => by rw [cpa_ne (by omega)]; exact p1 k hk, a1⟩
      · omega
      · omega
theorem addTo_k {s0 s : im_S} {j j' : Nat} {v w : Int} {Q : im_S → Prop} (h : RK s0 s) (hj : j < 27) (hj' : j' < 27) (hv : v = 1 ∨ v = -1) (hQ : ∀ s', RK s0 s' → (s'.1 2 4 = 0 → pok s' (5 + 2 * j)) → s'.1 2 11 = s.1 2 11 → Q s') : C_addTo7 (5 + 2 * j) (5 + 2 * j') v w s Q := by
  refine ⟨fun a => ∃ i : Nat, a.1 = (i : Int) ∧ i ≤ 9 ∧ RK s0 a.2 ∧ a.2.1 2 11 = s.1 2 11 ∧ ∀ k : Nat, k < i → -9000000000000000000 ≤ a.2.2 59 k ∧ a.2.2 59 k ≤ 9000000000000000000, ⟨0, rfl, by omega, h, rfl, fun k hk => by omega⟩, ?_⟩
  rintro ⟨x, s1⟩ ⟨i, e, i9, h1, a1, p1⟩
  dsimp only at e h1 a1 p1 ⊢
  subst e
  refine ⟨fun c => accept_k h1 hj (fun k hk => p1 k (by omega)) (fun s2 h2 q a2 => hQ _ h2 q (a2.trans a1)), fun c _ _ _ s2 e2 => ?_⟩
  subst e2
  refine ⟨i + 1, w32s (by omega), by omega, RK_pa h1 (by omega), a1, fun k hk => ?_⟩
  rw [cpa_row]
  split
  · have b1 := h1.1.2 j hj i (by omega)
    have b2 := h1.1.2 j' hj' i (by omega)
    rw [show 6 + 2 * j = 5 + 2 * j + 1 by omega] at b1
    rw [show 6 + 2 * j' = 5 + 2 * j' + 1 by omega] at b2
    rw [show cga s1 (5 + 2 * j + 1) (i : Int) = s1.2 (5 + 2 * j + 1) i by show s1.2 _ ((i : Nat) : Int).toNat = _; rw [Int.toNat_natCast], show cga s1 (5 + 2 * j' + 1) (i : Int) = s1.2 (5 + 2 * j' + 1) i by show s1.2 _ ((i : Nat) : Int).toNat = _; rw [Int.toNat_natCast]]
    generalize s1.2 (5 + 2 * j + 1) i = y1 at b1 ⊢
    generalize s1.2 (5 + 2 * j' + 1) i = y2 at b2 ⊢
    rcases hv with q | q <;> subst q
    · rw [w64_id (x := 1 * y2) (by omega) (by omega), w64_id (by omega) (by omega)]; omega
    · rw [w64_id (x := -1 * y2) (by omega) (by omega), w64_id (by omega) (by omega)]; omega
  · rename_i ck
    exact p1 k (by omega)
theorem multiply_k {s0 s : im_S} {j j' : Nat} {w : Int} {Q : im_S → Prop} (h : RK s0 s) (hj : j < 27) (hj' : j' < 27) (hQ : ∀ s', RK s0 s' → Q s') : C_multiply7 (5 + 2 * j) (5 + 2 * j') w s Q := by
  have m35 : C_multiply7_35 (5 + 2 * j) (5 + 2 * j') w s Q := by
    refine ⟨fun a => ∃ i : Nat, a.1 = (i : Int) ∧ i ≤ 9 ∧ RK s0 a.2 ∧ ∀ k : Nat, k < i → a.2.2 59 k = 0, ⟨0, rfl, by omega, h, fun k hk => by omega⟩, ?_⟩
    rintro ⟨x, s1⟩ ⟨i, e, i9, h1, p1⟩
    dsimp only at e h1 p1 ⊢
    subst e
    refine ⟨fun c => ?_, fun c _ s2 e2 => ?_⟩
    · refine ⟨fun a => ∃ i : Nat, a.1 = (i : Int) ∧ i ≤ 9 ∧ RK s0 a.2 ∧ ∀ k : Nat, k < 9 → -(1000000000000000000 * (i : Int)) ≤ a.2.2 59 k ∧ a.2.2 59 k ≤ 1000000000000000000 * (i : Int), ⟨0, rfl, by omega, h1, fun k hk => by rw [p1 k (by omega)]; omega⟩, ?_⟩
      rintro ⟨y, s2⟩ ⟨m, e, m9, h2, p2⟩
      dsimp only at e h2 p2 ⊢
      subst e
      refine ⟨fun d => accept_k h2 hj (fun k hk => by have := p2 k hk; omega) (fun s3 h3 _ _ => hQ _ h3), fun d => ?_⟩
      have d8 := h2.1.1 j hj
      have m8 : m ≤ 8 := by unfold cgf at d; omega
      refine ⟨fun a => ∃ n : Nat, a.1 = (n : Int) ∧ n ≤ 9 ∧ RK s0 a.2 ∧ ∀ k : Nat, k < 9 → -(1000000000000000000 * ((m : Int) + if k < m + n then 1 else 0)) ≤ a.2.2 59 k ∧ a.2.2 59 k ≤ 1000000000000000000 * ((m : Int) + if k < m + n then 1 else 0), ⟨0, rfl, by omega, h2, fun k hk => by have := p2 k hk; dsimp only; split <;> omega⟩, ?_⟩
      rintro ⟨z, s3⟩ ⟨n, e, n9, h3, p3⟩
      dsimp only at e h3 p3 ⊢
      subst e
      have out : C_multiply7_127 (fun a => ∃ i : Nat, a.1 = (i : Int) ∧ i ≤ 9 ∧ RK s0 a.2 ∧ ∀ k : Nat, k < 9 → -(1000000000000000000 * (i : Int)) ≤ a.2.2 59 k ∧ a.2.2 59 k ≤ 1000000000000000000 * (i : Int)) (5 + 2 * j) (5 + 2 * j') w (m : Int) s3 Q := by
        refine ⟨m + 1, w32s (by omega), by omega, h3, fun k hk => ?_⟩
        have := p3 k hk
        dsimp only
        split at this <;> omega
      refine ⟨fun _ => out, fun g => ⟨fun _ => out, fun g2 _ _ _ _ s4 e4 => ?_⟩⟩
      rw [w32_id (by omega) (by omega)] at g2 e4
      subst e4
      refine ⟨n + 1, w32s (by omega), by omega, RK_pa h3 (by omega), fun k hk => ?_⟩
      have b1 := h3.1.2 j hj m (by omega)
      have b2 := h3.1.2 j' hj' n (by omega)
      rw [show 6 + 2 * j = 5 + 2 * j + 1 by omega] at b1
      rw [show 6 + 2 * j' = 5 + 2 * j' + 1 by omega] at b2
      rw [cpa_row]
      have b3 := p3 k hk
      by_cases ek : k = ((m : Int) + n).toNat
      · rw [if_pos ek]
        have ek : k = m + n := by omega
        subst ek
        rw [if_neg (by omega)] at b3
        rw [if_pos (by omega)]
        rw [show cga s3 (5 + 2 * j + 1) (m : Int) = s3.2 (5 + 2 * j + 1) m by show s3.2 _ ((m : Nat) : Int).toNat = _; rw [Int.toNat_natCast], show cga s3 (5 + 2 * j' + 1) (n : Int) = s3.2 (5 + 2 * j' + 1) n by show s3.2 _ ((n : Nat) : Int).toNat = _; rw [Int.toNat_natCast], show cga s3 59 ((m : Int) + n) = s3.2 59 (m + n) by show s3.2 _ ((m : Int) + n).toNat = _; rw [show ((m : Int) + n).toNat = m + n by omega]]
        generalize s3.2 (5 + 2 * j + 1) m = y1 at b1 ⊢
        generalize s3.2 (5 + 2 * j' + 1) n = y2 at b2 ⊢
        generalize s3.2 59 (m + n) = y3 at b3 ⊢
        have b4 : (y1 * y2).natAbs ≤ 1000000000 * 1000000000 := by rw [Int.natAbs_mul]; exact Nat.mul_le_mul (by omega) (by omega)
        generalize y1 * y2 = y4 at b4 ⊢
        rw [w64_id (x := y4) (by omega) (by omega), w64_id (by omega) (by omega)]
        omega
      · rw [if_neg ek]
        by_cases q : k < m + n
        · rw [if_pos q] at b3
          rw [if_pos (by omega)]
          exact b3
        · rw [if_neg q] at b3
          rw [if_neg (by omega)]
          exact b3
    · subst e2
      refine ⟨i + 1, w32s (by omega), by omega, RK_pa h1 (by omega), fun k hk => ?_⟩
      rw [cpa_row]
      split
      · rfl
      · exact p1 k (by omega)
  exact ⟨fun _ => m35, fun _ => ⟨fun _ => m35, fun _ => ⟨fun _ => m35, fun _ => fail_k h (by decide) (fun s3 h3 _ _ => hQ _ h3)⟩⟩⟩
theorem copy6_k {a b : Nat} {s : im_S} {Q : im_S → Prop} (hab : b ≠ a) (hQ : ∀ s', (∀ k : Nat, k < 9 → s'.2 (a + 1) k = s.2 (b + 1) k) → s'.1 a 0 = s.1 b 0 → pyf a s s' → Q s') : C_copy6 a b s Q := by
  refine ⟨fun q => ∃ i : Nat, q.1 = (i : Int) ∧ i ≤ 9 ∧ pyf a s q.2 ∧ ∀ k : Nat, k < i → q.2.2 (a + 1) k = s.2 (b + 1) k, ⟨0, rfl, by omega, pyf_refl _ _, fun k h2 => by omega⟩, ?_⟩
  rintro ⟨x, s1⟩ ⟨i, e, i9, f, hz⟩
  dsimp only at e f hz ⊢
  subst e
  refine ⟨fun c s2 e2 => ?_, fun c _ _ s2 e2 => ?_⟩
  · subst e2
    refine hQ _ (fun k hk => hz k (by omega)) ?_ (gfr_pf f ⟨rfl, rfl⟩)
    rw [cpf_same]
    exact f.1 _ _ (fun z => hab z.1)
  · subst e2
    refine ⟨i + 1, w32s (by omega), by omega, gfr_pa f rfl, fun k k2 => ?_⟩
    rw [cpa_row]
    by_cases ck : k = i
    · rw [if_pos (by omega), ck]
      show s1.2 (b + 1) ((i : Nat) : Int).toNat = _
      rw [Int.toNat_natCast, f.2 _ (by omega)]
    · rw [if_neg (by omega)]; exact hz k (by omega)
theorem setC_k {s0 s : im_S} {j : Nat} {v : Int} {Q : im_S → Prop} (h : RK s0 s) (hj : j < 27) (h1 : 0 ≤ v) (h2 : v ≤ 999999) (hQ : ∀ s', RK s0 s' → Q s') : C_setConstant6 (5 + 2 * j) v s Q :=
  setConstant_b (fun s1 p1 f1 => hQ _ (RK_py h hj f1 p1 (fun k => by
    match k with
    | 0 => show v.natAbs ≤ _; omega
    | k + 1 => show (0 : Int).natAbs ≤ _; decide +revert)))
theorem setL_k {s0 s : im_S} {j : Nat} {Q : im_S → Prop} (h : RK s0 s) (hj : j < 27) (hQ : ∀ s', RK s0 s' → Q s') : C_setLinear6 (5 + 2 * j) 1 0 s Q :=
  setLinear_b (fun s1 p1 f1 => hQ _ (RK_py h hj f1 p1 (fun k => by
    match k with
    | 0 => show (0 : Int).natAbs ≤ _; decide
    | 1 => show (1 : Int).natAbs ≤ _; decide
    | k + 2 => show (0 : Int).natAbs ≤ _; decide +revert)))
theorem raise_k {s0 s : im_S} {j : Nat} {l2 w : Int} {Q : im_S → Prop} (h : RK s0 s) (hj : j < 26) (hQ : ∀ s', RK s0 s' → Q s') : C_raise7 (5 + 2 * j) l2 w s Q := by
  refine ⟨fun _ => ⟨fun _ => ?_, fun _ => setC_k h (by omega) (by omega) (by omega) hQ⟩, fun _ => hQ _ h⟩
  refine copy6_k (by omega) (fun s1 r1 d1 f1 => ?_)
  have h1 : RK s0 s1 := by
    refine RK_rsf h (gfr_mono f1 (fun c k e => by unfold rsF; omega) (fun c e => by unfold rsR; omega)) ⟨fun m hm => ?_, fun m hm k hk => ?_⟩ (by rw [f1.1 _ _ (by omega)]; exact h.2.2.1)
    · by_cases c : m = 26
      · subst c
        rw [show 5 + 2 * 26 = 57 by rfl, d1]; exact h.1.1 j (by omega)
      · rw [f1.1 _ _ (by omega)]; exact h.1.1 m hm
    · by_cases c : m = 26
      · subst c
        rw [show 6 + 2 * 26 = 57 + 1 by rfl, r1 k hk, show 5 + 2 * j + 1 = 6 + 2 * j by omega]
        exact h.1.2 j (by omega) k hk
      · rw [f1.2 _ (by omega)]; exact h.1.2 m hm k hk
  have m63 : ∀ v s2, RK s0 s2 → C_raise7_63 (5 + 2 * j) w v s2 Q := fun v s2 h2 => by
    refine ⟨fun a => RK s0 a.2, h2, ?_⟩
    rintro ⟨x, s3⟩ h3
    dsimp only at h3 ⊢
    exact ⟨fun _ => hQ _ h3, fun _ => ⟨fun _ => hQ _ h3, fun _ => multiply_k (j' := 26) h3 (by omega) (by omega) (fun s4 h4 => h4)⟩⟩
  refine ⟨fun _ => m63 _ _ h1, fun _ _ => ?_⟩
  intro v1 e1 v2 e2
  exact m63 _ _ h1
