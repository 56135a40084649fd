theorem PRd_1 {p : Nat → List Int} {m : Nat → Nat} {x : Rat} : ∀ {n : Nat}, (∀ e, e < n → m e = 0) → PRd p m x n = 1
  | 0, _ => rfl
  | n + 1, h => by
    show PRd p m x n * pev (p n) x ^ m n = 1
    rw [PRd_1 (fun e he => h e (by omega)), h n (by omega), Rat.pow_zero]; grind
/-- frames of addAtom's steps -/
theorem ad_py {c : Nat} {s s' : im_S} (h : pyf c s s') (hc : c = 259 ∨ c = 261 ∨ c = 265) : adf s s' := gfr_mono h (fun c k e => by omega) (fun c e => by omega)
theorem ad_fd {s s' : im_S} (h : fdf s s') : adf s s' := gfr_mono h (fun c k e => by omega) (fun c e => by omega)
theorem ad_dv {s s' : im_S} (h : dvf s s') : adf s s' := gfr_mono h (fun c k e => by omega) (fun c e => by omega)
theorem ad_fl {s s' : im_S} (h : flf s s') : adf s s' := gfr_mono h (fun c k e => by omega) (fun c e => by omega)
theorem BIp {c n : Nat} {D : Int} {s s' : im_S} (h : BI s n D) (f : pyf c s s') (hc : c = 259 ∨ c = 261 ∨ c = 265) : BI s' n D := BI_co h f (fun e he => by omega) (fun e he => by omega) (by omega) (dI_co h.2.2.2.2 f (by omega) (by omega))
theorem BId {n : Nat} {D : Int} {s s' : im_S} (h : BI s n D) (f : dvf s s') : BI s' n D := BI_co h f (fun e he => by omega) (fun e he => by omega) (by omega) (dI_co h.2.2.2.2 f (by omega) (by omega))
theorem BFp {c n m : Nat} {p : Nat → List Int} {M : Nat → Nat → Nat} {s s' : im_S} (h : BF s n p M m) (f : pyf c s s') (hc : c = 259 ∨ c = 261 ∨ c = 265) (n80 : n ≤ 80) : BF s' n p M m := BF_co h f n80 (fun e he => by omega) (fun e he => by omega) (by omega)
theorem BFd {n m : Nat} {p : Nat → List Int} {M : Nat → Nat → Nat} {s s' : im_S} (h : BF s n p M m) (f : dvf s s') (n80 : n ≤ 80) : BF s' n p M m := BF_co h f n80 (fun e he => by omega) (fun e he => by omega) (by omega)
theorem nep {c : Nat} {s s' : im_S} (h : s.1 247 3 ≠ s.1 247 4) (f : pyf c s s') (hc : c = 259 ∨ c = 261 ∨ c = 265) : s'.1 247 3 ≠ s'.1 247 4 := by rw [f.1 _ _ (by omega), f.1 _ _ (by omega)]; exact h
theorem ned {s s' : im_S} (h : s.1 247 3 ≠ s.1 247 4) (f : dvf s s') : s'.1 247 3 ≠ s'.1 247 4 := by rw [f.1 _ _ (by omega), f.1 _ _ (by omega)]; exact h
theorem dsP {c n : Nat} {s s' : im_S} (f : pyf c s s') (hc : c = 259 ∨ c = 261 ∨ c = 265) (n80 : n ≤ 80) : dsp s' n = dsp s n := dsp_co (fun e he => f.1 _ _ (by omega))
theorem dsD {n : Nat} {s s' : im_S} (f : dvf s s') (n80 : n ≤ 80) : dsp s' n = dsp s n := dsp_co (fun e he => f.1 _ _ (by omega))
theorem dsF {n : Nat} {s s' : im_S} (f : fdf s s') (n80 : n ≤ 80) : dsp s' n = dsp s n := dsp_co (fun e he => f.1 _ _ (by omega))
/-- the atom's product so far, times what is still to be split -/
def atP (a : Nat) (F : List Int) (p1 : Nat → List Int) (M1 : Nat → Nat → Nat) (n1 : Nat) (C : List Int) : Prop := ((∀ k, pgt C k = 0) ∧ (∀ k, pgt F k = 0) ∧ ∀ e, e < n1 → M1 e a = 0) ∨ ((pat C ∧ lps C) ∧ nzp F ∧ ∃ c d : Int, c ≠ 0 ∧ d ≠ 0 ∧ ∀ x : Rat, (c : Rat) * pev F x = (d : Rat) * (PRd p1 (fun e => M1 e a) x n1 * pev C x))
def AI (s : im_S) (D' : Int) (m a : Nat) (F : List Int) (p : Nat → List Int) (M : Nat → Nat → Nat) (n r : Nat) (s' : im_S) : Prop := ∃ n1 p1 M1 C, BI s' n1 D' ∧ BF s' n1 p1 M1 (m + 81 * r) ∧ adf s s' ∧ s'.1 247 3 ≠ s'.1 247 4 ∧ ply s' 259 C ∧ dsp s' n1 + max 0 (s'.1 259 0) ≤ D' ∧ s'.1 259 0 ≤ 8 - (r : Int) ∧ (∀ i, i < 10 → i ≠ a → ∀ x : Rat, PRd p1 (fun e => M1 e i) x n1 = PRd p (fun e => M e i) x n) ∧ atP a F p1 M1 n1 C
theorem addAtom_v {s : im_S} {n m a c0 : Nat} {D D' : Int} {F : List Int} {p : Nat → List Int} {M : Nat → Nat → Nat} {Q : im_S → Prop} (ha : a < 10) (hB : BI s n D) (hBF : BF s n p M m) (hm : m + 1000 ≤ 900000) (hF : ply s c0 F) (bF : pab F 1000000000) (hp : c0 < 84) (hD : D + 8 ≤ D') (hD' : D' ≤ 80) (ne : s.1 247 3 ≠ s.1 247 4) (hM0 : ∀ e, e < n → M e a = 0) (hQ : ∀ s' n' p' M', BI s' n' D' → BF s' n' p' M' (m + 648) → adf s s' → s'.1 247 3 ≠ s'.1 247 4 → (∀ i, i < 10 → i ≠ a → ∀ x : Rat, PRd p' (fun e => M' e i) x n' = PRd p (fun e => M e i) x n) → ((∀ k, pgt F k = 0) → ∀ e, e < n' → M' e a = 0) → (nzp F → ∃ c d : Int, c ≠ 0 ∧ d ≠ 0 ∧ ∀ x : Rat, (c : Rat) * pev F x = (d : Rat) * PRd p' (fun e => M' e a) x n') → Q s') : C_addAtom0v c0 (a : Int) s Q := by
  have n80s := hB.2.1
  refine copy6_b hF (by omega) (fun s1 h1 f1 => makePrimitive_v h1 (fun k => by have := bF k; omega) (fun s2 C g c2 g0 eg prl f2 => ?_))
  have fr2 : adf s s2 := gfr_trans (ad_py f1 (Or.inl rfl)) (ad_py f2 (Or.inl rfl))
  have B2 : BI s2 n D := BIp (BIp hB f1 (Or.inl rfl)) f2 (Or.inl rfl)
  have F2 := BFp (BFp hBF f1 (Or.inl rfl) n80s) f2 (Or.inl rfl) n80s
  have ne2 := nep (nep ne f1 (Or.inl rfl)) f2 (Or.inl rfl)
  have bC : pab C 1000000000 := fun k => by
    have a := bF k
    rw [eg k, Int.natAbs_mul] at a
    have : 1 * (pgt C k).natAbs ≤ g.natAbs * (pgt C k).natAbs := Nat.mul_le_mul_right _ (by omega)
    omega
  have at2 : atP a F p M n C := by
    by_cases z : ∀ k, pgt C k = 0
    · exact Or.inl ⟨z, fun k => by rw [eg k, z k, Int.mul_zero], hM0⟩
    · have nC : ∃ k, pgt C k ≠ 0 := Classical.byContradiction fun q => z (fun k => Classical.byContradiction fun w => q ⟨k, w⟩)
      refine Or.inr ⟨⟨⟨C, [1], fun x => by rw [pev_c1]; grind, ply_9 c2, nC, bC⟩, (prl (by
        obtain ⟨k, hk⟩ := nC
        exact ⟨k, by rw [eg k]; exact Int.mul_ne_zero g0 hk⟩)).2⟩, ?_, 1, g, by decide, g0, fun x => ?_⟩
      · obtain ⟨k, hk⟩ := nC
        exact ⟨k, by rw [eg k]; exact Int.mul_ne_zero g0 hk⟩
      · rw [PRd_1 hM0, rat_i1, pev_csc eg x]; grind
  have d2 := c2.2.2.1
  have ds2 := B2.2.2.2.1
  refine ⟨fun q => ∃ r : Nat, q.1 = (r : Int) ∧ r ≤ 8 ∧ AI s D' m a F p M n r q.2, ⟨0, rfl, by omega, n, p, M, C, ⟨B2.1, B2.2.1, B2.2.2.1, by dsimp only; omega, B2.2.2.2.2⟩, F2, fr2, ne2, c2, by dsimp only; omega, by dsimp only; omega, fun _ _ _ _ => rfl, at2⟩, ?_⟩
  rintro ⟨x9, s3⟩ ⟨r, er, r8, n3, p3, M3, C3, B3, F3, fr3, ne3, c3, hs3, dr3, ro3, at3⟩
  dsimp only at er B3 F3 fr3 ne3 c3 hs3 dr3 ⊢
  subst er
  have n80 := B3.2.1
  have fin : s3.1 259 0 ≤ 0 → Q s3 := fun d0 => by
    refine hQ s3 n3 p3 M3 B3 (BF_m F3 (by omega)) fr3 ne3 ro3 (fun z => ?_) (fun nF => ?_)
    · rcases at3 with q | ⟨_, ⟨k, hk⟩, _⟩
      · exact q.2.2
      · exact absurd (z k) hk
    · rcases at3 with q | ⟨pC, _, c, d, c0', d0', rr⟩
      · obtain ⟨k, hk⟩ := nF
        exact absurd (q.2.1 k) hk
      · obtain ⟨k0, kk⟩ := const_of c3.2 d0 (pat_0 pC.1)
        exact ⟨c, d * pgt C3 0, c0', Int.mul_ne_zero d0' k0, fun x => by rw [rr x, kk x, Rat.intCast_mul]; grind⟩
  refine ⟨fun c8 => fin (by omega), fun c8 => ⟨fun cd => fin cd, fun cd => ?_⟩⟩
  have cd' : 1 ≤ s3.1 259 0 := by have : ¬ s3.1 259 0 ≤ 0 := cd; omega
  obtain ⟨⟨pC, lC⟩, nF, c, d, c0', d0', rr⟩ : (pat C3 ∧ lps C3) ∧ nzp F ∧ ∃ c d : Int, c ≠ 0 ∧ d ≠ 0 ∧ ∀ x : Rat, (c : Rat) * pev F x = (d : Rat) * (PRd p3 (fun e => M3 e a) x n3 * pev C3 x) := by
    rcases at3 with q | q
    · exact absurd (q.1 _) (c3.2.2.2.2 (by omega))
    · exact q
  refine setSlope_v c3 (by decide) (pat_b pC) (fun s4 S h4 bS hS f4 => ?_)
  have fr4 : adf s s4 := gfr_trans fr3 (ad_py f4 (Or.inr (Or.inl rfl)))
  have B4 := BIp B3 f4 (Or.inr (Or.inl rfl))
  have F4 := BFp F3 f4 (Or.inr (Or.inl rfl)) n80
  have ne4 := nep ne3 f4 (Or.inr (Or.inl rfl))
  have c4 : ply s4 259 C3 := ply_fr c3 f4 (by omega) (by omega)
  have nS : nzp S := by
    obtain ⟨k, hk⟩ : ∃ k, (s3.1 259 0).toNat = k + 1 := ⟨(s3.1 259 0).toNat - 1, by omega⟩
    refine ⟨k, fun z => ?_⟩
    rw [hS] at z
    rcases Int.mul_eq_zero.1 z with w | w
    · exact c3.2.2.2.2 (by omega) (by rw [hk]; exact w)
    · omega
  obtain ⟨G, Fc, Hc, nG, pG, eF, eH, hc⟩ := zgcd (nzp_d (pat_0 pC)) nS
  obtain ⟨hL, hb⟩ := fp_slope pC hS nS eF eH hc
  refine find_v B4.2.2.2.2 ne4 c4 h4 (by unfold opc; omega) (by unfold opc; omega) (pat_58 pC) bS (pat_0 pC) nS (fun t ht => lead_pat c4.2 pC ht) (fun t ht => lead_slope c4.2 h4.2 pC hS nS ht) nG pG eF eH hc hL hb (fun s5 Dv K1 K2 g5 w5 _ gn5 eD1 eD2 cK dv5 _ lD d5 ne5 f5 => ?_)
  clear hL hb eF eH hc pG nG
  have sK1 := sqf_core (pat_0 pC) hS eD1 eD2 cK
  have fr5 : adf s s5 := gfr_trans fr4 (ad_fd f5)
  have B5 := fd_BI B4 f5 d5
  have F5 := fd_BF F4 f5 n80
  have c5 : ply s5 259 C3 := fd_ply (by unfold opc; omega) c4 f5
  refine copy6_b g5 (by decide) (fun s6 g6 f6 => ?_)
  have fr6 : adf s s6 := gfr_trans fr5 (ad_py f6 (Or.inr (Or.inl rfl)))
  have B6 := BIp B5 f6 (Or.inr (Or.inl rfl))
  have F6 := BFp F5 f6 (Or.inr (Or.inl rfl)) n80
  have ne6 := nep ne5 f6 (Or.inr (Or.inl rfl))
  have c6 : ply s6 259 C3 := ply_fr c5 f6 (by omega) (by omega)
  refine divide_b c6 g6 (by decide) (by decide) (by decide) (by decide) (pat_58 pC) w5 (fun _ _ s7 K k7 e7 f7 => ?_) (fun nd s7 f7 => ?_)
  · have fr7 : adf s s7 := gfr_trans fr6 (ad_dv f7)
    have B7 := BId B6 f7
    have F7 := BFd F6 f7 n80
    have ne7 := ned ne6 f7
    have g7 : ply s7 261 Dv := ply_fr g6 f7 (by omega) (by omega)
    refine copy6_b k7 (by decide) (fun s8 k8 f8 => ?_)
    have fr8 : adf s s8 := gfr_trans fr7 (ad_py f8 (Or.inr (Or.inr rfl)))
    have B8 := BIp B7 f8 (Or.inr (Or.inr rfl))
    have F8 := BFp F7 f8 (Or.inr (Or.inr rfl)) n80
    have ne8 := nep ne7 f8 (Or.inr (Or.inr rfl))
    have g8 : ply s8 261 Dv := ply_fr g7 f8 (by omega) (by omega)
    refine copy6_b g8 (by decide) (fun s9 g9 f9 => ?_)
    have fr9 : adf s s9 := gfr_trans fr8 (ad_py f9 (Or.inl rfl))
    have B9 := BIp B8 f9 (Or.inl rfl)
    have F9 := BFp F8 f9 (Or.inl rfl) n80
    have ne9 := nep ne8 f9 (Or.inl rfl)
    have k9 : ply s9 265 K := ply_fr k8 f9 (by omega) (by omega)
    have ek : ∀ x : Rat, pev K x = pev K1 x := can_eq gn5 (fun x => by rw [← e7 x, ← eD1 x])
    have sK : sqf K := sqf_l (O := [1]) sK1 (fun x => by rw [ev_c, rat_i1, ek x]; grind)
    have dd := dgo_mul c3.2 g9.2 k9.2 e7 (pat_0 pC)
    have gn := dgo_0 g9.2 gn5
    have ds9 : dsp s9 n3 = dsp s3 n3 := by rw [dsP f9 (Or.inl rfl) n80, dsP f8 (Or.inr (Or.inr rfl)) n80, dsD f7 n80, dsP f6 (Or.inr (Or.inl rfl)) n80, dsF f5 n80, dsP f4 (Or.inr (Or.inl rfl)) n80]
    clear ne ne2 ne3 ne4 ne5 ne6 ne7 ne8
    have kp0 := dgo_0 k9.2 (ne_of_mul e7 (pat_0 pC)).2
    -- the rest has a root at least: else C and its derivative had the same degree
    have k1 : 1 ≤ s9.1 265 0 := by
      refine Classical.byContradiction fun z => ?_
      obtain ⟨q0, qq⟩ := const_of k9.2 (by omega) (ne_of_mul e7 (pat_0 pC)).2
      have dS := dgo_0 h4.2 nS
      obtain ⟨_, nK2⟩ := ne_of_mul eD2 nS
      obtain ⟨k2, u1, u2⟩ := top_ex nK2
      have gg1 : pdb Dv ((s9.1 259 0).toNat + 1) := fun j hj => g9.2.2.2.1 j (by omega)
      have gg2 := g9.2.2.2.2 gn
      have SS : pdb S ((s3.1 259 0).toNat - 1 + 1) := fun j hj => by rw [hS, c3.2.2.2.1 (j + 1) (by omega), Int.zero_mul]
      have tt := (top_pr eD2 SS gg1 gg2 u1 u2).1
      omega
    have B9' : BI s9 n3 (dsp s3 n3 + s9.1 265 0) := ⟨B9.1, B9.2.1, B9.2.2.1, by rw [ds9]; omega, B9.2.2.2.2⟩
    have hm9 : m + 81 * r + 80 ≤ 1000000 := by omega
    refine foldRest_v ha B9' F9 hm9 k9 (pat_r pC e7) ⟨sK, lps_r lC lD e7⟩ (by rw [ds9]; omega) (by omega) ne9 (fun s10 n10 p10 M10 B10 F10 f10 ne10 rl10 => ?_)
    clear ne9
    have dc : s10.1 259 0 = s9.1 259 0 := f10.1 _ _ (by omega)
    have ds10 := B10.2.2.2.1
    refine ⟨r + 1, w32s (by omega), by omega, n10, p10, M10, Dv, ⟨B10.1, B10.2.1, B10.2.2.1, by dsimp only; omega, B10.2.2.2.2⟩, BF_m F10 (by omega), gfr_trans fr9 (ad_fl f10), ne10, ply_fr g9 f10 (by omega) (by omega), by dsimp only; rw [dc]; omega, by dsimp only; rw [dc]; omega, fun i hi ia x => by rw [rl10.1 i hi ia x]; exact ro3 i hi ia x, Or.inr ⟨⟨pat_l pC e7, lD⟩, nF, ?_⟩⟩
    obtain ⟨_, c5', d5', cn5, dn5, r5⟩ := rl10
    refine ⟨c * d5', d * c5', Int.mul_ne_zero c0' dn5, Int.mul_ne_zero d0' cn5, fun x => ?_⟩
    have q1 := r5 x
    rw [ev_c, rat_i1] at q1
    have q2 := rr x
    rw [e7 x] at q2
    rw [Rat.intCast_mul, Rat.intCast_mul]
    have q3 : (c : Rat) * (d5' : Rat) * pev F x = (d5' : Rat) * ((c : Rat) * pev F x) := by grind
    rw [q3, q2]
    have q4 : (d5' : Rat) * ((d : Rat) * (PRd p3 (fun e => M3 e a) x n3 * (pev Dv x * pev K x))) = (d : Rat) * pev Dv x * ((d5' : Rat) * (PRd p3 (fun e => M3 e a) x n3 * pev K x)) := by grind
    rw [q4, ← q1]
    grind
  · exfalso
    rcases nd with q | q
    · exact q dv5
    · obtain ⟨k, hk⟩ := gn5
      exact hk (q k)
