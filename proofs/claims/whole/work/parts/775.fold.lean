/-! foldRest, addAtom -/
def flf (s s' : im_S) : Prop := gfr (fun c f => (c = 84 ∧ f = 2) ∨ (86 ≤ c ∧ c < 246 ∧ f = 0) ∨ (c = 247 ∧ (f = 3 ∨ f = 4)) ∨ ((c = 253 ∨ c = 255 ∨ c = 257 ∨ c = 263 ∨ c = 265) ∧ f = 0)) (fun c => (87 ≤ c ∧ c ≤ 246) ∨ (248 ≤ c ∧ c ≤ 252) ∨ c = 254 ∨ c = 256 ∨ c = 258 ∨ c = 264 ∨ c = 266) s s'
/-- the loop of foldRest -/
def fdI (s : im_S) (n : Nat) (D : Int) (s' : im_S) : Prop := ∃ n', n ≤ n' ∧ BI s' n' D ∧ ∃ R, ply s' 265 R ∧ pat R ∧ dsp s' n' + s'.1 265 0 ≤ D ∧ flf s s'
theorem foldRest_99 {s s3 : im_S} {n : Nat} {D l1 l2 l3 l4 : Int} {R G : List Int} {K7 : Int × im_S → Prop} {Q : im_S → Prop} (hf : ∃ n', n ≤ n' ∧ BI s3 n' D ∧ ply s3 265 R ∧ pat R ∧ dsp s3 n' + s3.1 265 0 ≤ D ∧ flf s s3) (hG : ply s3 263 G) (wG : w63 G) (gn : ∃ k, pgt G k ≠ 0) (dv : dvs R G) (hK : ∀ s', fdI s n D s' → K7 (w32 (l3 + 1), s')) : C_foldRest0_99 K7 l1 l2 l3 l4 s3 Q := by
  intro _ _ s4 e4
  obtain ⟨n', nn, hB, hR, pR, hs, fl⟩ := hf
  have f4 : gfr (fun _ _ => False) (fun c => c = 246) s3 s4 := by subst e4; exact gfr_pa (gfr_refl _ _ _) rfl
  have B4 : BI s4 n' D := BI_co hB f4 (fun _ _ z => z) (fun e he => by omega) (fun z => z) (dI_co hB.2.2.2.2 f4 (fun z => z) (fun z => z))
  have R4 : ply s4 265 R := ply_fr hR f4 (fun z => z) (by omega)
  have G4 : ply s4 263 G := ply_fr hG f4 (fun z => z) (by omega)
  refine divide_b R4 G4 (by decide) (by decide) (by decide) (by decide) (pat_58 pR) wG (fun _ _ s5 K k5 e5 f5 => ?_) (fun nd s5 f5 => ?_)
  · have K5 : BI s5 n' D := BI_co B4 f5 (fun e he => by omega) (fun e he => by omega) (by omega) (dI_co B4.2.2.2.2 f5 (by omega) (by omega))
    refine copy6_b k5 (by decide) (fun s6 h6 f6 => hK s6 ⟨n', nn, ?_, K, h6, pat_r pR e5, ?_, ?_⟩)
    · exact BI_co K5 f6 (fun e he => by omega) (fun e he => by omega) (by omega) (dI_co K5.2.2.2.2 f6 (by omega) (by omega))
    · have d6 := dgo_mul hR.2 hG.2 h6.2 e5 (pat_0 pR)
      have g0 := dgo_0 hG.2 gn
      have ed : dsp s6 n' = dsp s3 n' := by
        have nb := hB.2.1
        rw [dsp_co (s := s5) (fun e he => f6.1 _ _ (by omega)), dsp_co (s := s4) (fun e he => f5.1 _ _ (by omega)), dsp_co (s := s3) (fun e he => f4.1 _ _ (fun z => z))]
      rw [ed]; omega
    · exact gfr_trans fl (gfr_trans (gfr_mono f4 (fun c k e => e.elim) (fun c e => by omega)) (gfr_trans (gfr_mono f5 (fun c k e => by omega) (fun c e => by omega)) (gfr_mono f6 (fun c k e => by omega) (fun c e => by omega))))
  · exfalso
    rcases nd with q | q
    · exact q dv
    · obtain ⟨k, hk⟩ := gn
      exact hk (q k)
theorem foldRest_b {s : im_S} {n : Nat} {D l1 : Int} {R : List Int} {Q : im_S → Prop} (hB : BI s n D) (hR : ply s 265 R) (pR : pat R) (hs : dsp s n + s.1 265 0 ≤ D) (hD : D ≤ 80) (hQ : ∀ s' n', BI s' n' D → flf s s' → Q s') : C_foldRest0 l1 s Q := by
  refine ⟨fun a => 0 ≤ a.1 ∧ a.1 ≤ n ∧ fdI s n D a.2, ⟨Int.le_refl _, by dsimp only; omega, n, Nat.le_refl _, hB, R, hR, pR, hs, gfr_refl _ _ _⟩, ?_⟩
  rintro ⟨x, s1⟩ ⟨x0, xn, n1, nn1, B1, R1, r1, p1, hs1, fl1⟩
  dsimp only at x0 xn B1 r1 hs1 fl1 ⊢
  have en : cgf s 84 2 = (n : Int) := hB.1
  rw [en]
  have n80 := B1.2.1
  have fin : C_foldRest0_151 l1 s1 Q := by
    refine ⟨fun _ => hQ s1 n1 B1 fl1, fun c => ⟨fun _ => hQ s1 n1 B1 fl1, fun c8 => ?_⟩⟩
    rw [show cgf s1 84 2 = (n1 : Int) from B1.1] at c8 ⊢
    rw [Int.toNat_natCast]
    have rd : 1 ≤ s1.1 265 0 := by have : ¬ s1.1 265 0 ≤ 0 := c; omega
    refine copy6_b r1 (by omega) (fun s2 h2 f2 => ?_)
    have n2 : s2.1 84 2 = (n1 : Int) := by rw [f2.1 _ _ (by omega)]; exact B1.1
    have d2 : s2.1 (86 + 2 * n1) 0 = s1.1 265 0 := dgo_u h2.2 r1.2
    refine ⟨fun a => a.2.1 = s2.1 ∧ ∀ c, c ≠ 246 → a.2.2 c = s2.2 c, ⟨rfl, fun _ _ => rfl⟩, ?_⟩
    rintro ⟨i, s3⟩ ⟨ef, er⟩
    dsimp only at ef er ⊢
    refine ⟨fun _ s4 e4 => ?_, fun _ v _ _ s4 e4 => ?_⟩
    · have n3 : cgf s3 84 2 = (n1 : Int) := by show s3.1 84 2 = _; rw [ef]; exact n2
      rw [n3, w32s (by omega)] at e4
      have fld : ∀ c k, ¬ (c = 84 ∧ k = 2) → s4.1 c k = s2.1 c k := fun c k h => by subst e4; rw [cpf_ne h, ef]
      have row : ∀ c, c ≠ 246 → s4.2 c = s2.2 c := fun c h => by subst e4; exact er c h
      refine hQ s4 (n1 + 1) ⟨by subst e4; exact cpf_same _ _ _ _, by omega, fun e he => ?_, ?_, ?_⟩ (gfr_trans fl1 ⟨fun c k z => ?_, fun c z => ?_⟩)
      · by_cases c1 : e = n1
        · subst c1
          exact ⟨R1, ply_co h2 (row _ (by omega)) (fld _ _ (by omega)), p1, by rw [fld _ _ (by omega), d2]; exact rd⟩
        · obtain ⟨P, q1, q2, q3⟩ := B1.2.2.1 e (by omega)
          have q4 := ply_fr q1 f2 (by omega) (by omega)
          exact ⟨P, ply_co q4 (row _ (by omega)) (fld _ _ (by omega)), q2, by rw [fld _ _ (by omega), f2.1 _ _ (by omega)]; exact q3⟩
      · show dsp s4 n1 + _ ≤ D
        rw [dsp_co (s := s1) (fun e he => by rw [fld _ _ (by omega), f2.1 _ _ (by omega)]), fld _ _ (by omega), d2]
        exact hs1
      · unfold dI
        rw [fld _ _ (by omega), fld _ _ (by omega), f2.1 _ _ (by omega), f2.1 _ _ (by omega)]
        exact B1.2.2.2.2
      · rw [fld c k (by omega), f2.1 c k (by omega)]
      · rw [row c (by omega), f2.2 c (by omega)]
    · subst e4
      refine ⟨ef, fun c hc => ?_⟩
      rw [cpa_ne hc]; exact er c hc
  refine ⟨fun _ => fin, fun c => ⟨fun _ => fin, fun cr => ?_⟩⟩
  obtain ⟨e, he⟩ : ∃ e : Nat, x = (e : Int) := ⟨x.toNat, by omega⟩
  subst he
  rw [Int.toNat_natCast]
  have en1 : e < n1 := by omega
  obtain ⟨P, q1, q2, q3⟩ := B1.2.2.1 e en1
  refine find_b B1.2.2.2.2 q1 r1 (by unfold opc; omega) (by unfold opc; omega) (pat_58 q2) (pat_58 p1) (fun s2 G g2 w2 gn2 dv1 dv2 d2 f2 => ?_)
  have fl2 : flf s s2 := gfr_trans fl1 (gfr_mono f2 (fun c k e => by omega) (fun c e => by omega))
  have B2 : BI s2 n1 D := BI_co B1 f2 (fun e he => by omega) (fun e he => by omega) (by omega) d2
  have r2 : ply s2 265 R1 := ply_fr r1 f2 (by omega) (by omega)
  have hs2 : dsp s2 n1 + s2.1 265 0 ≤ D := by rw [dsp_co (s := s1) (fun e he => f2.1 _ _ (by omega)), f2.1 _ _ (by omega)]; exact hs1
  have nx : ∀ s', fdI s n D s' → (fun a : Int × im_S => 0 ≤ a.1 ∧ a.1 ≤ n ∧ fdI s n D a.2) (w32 ((e : Int) + 1), s') := fun s' h => by
    rw [w32s (by omega)]
    exact ⟨by dsimp only; omega, by dsimp only; omega, h⟩
  refine ⟨fun _ => nx s2 ⟨n1, nn1, B2, R1, r2, p1, hs2, fl2⟩, fun cg => ?_⟩
  refine copy6_b g2 (by decide) (fun s3 g3 f3 => ?_)
  have fl3 : flf s s3 := gfr_trans fl2 (gfr_mono f3 (fun c k e => by omega) (fun c e => by omega))
  have B3 : BI s3 n1 D := BI_co B2 f3 (fun e he => by omega) (fun e he => by omega) (by omega) (dI_co d2 f3 (by omega) (by omega))
  have r3 : ply s3 265 R1 := ply_fr r2 f3 (by omega) (by omega)
  have hs3 : dsp s3 n1 + s3.1 265 0 ≤ D := by rw [dsp_co (s := s2) (fun e he => f3.1 _ _ (by omega)), f3.1 _ _ (by omega)]; exact hs2
  have gd : 1 ≤ s3.1 263 0 := by
    have a := dgo_u g3.2 g2.2
    have : ¬ s2.1 255 0 ≤ 0 := cg
    omega
  refine ⟨fun _ => foldRest_99 ⟨n1, nn1, B3, r3, p1, hs3, fl3⟩ g3 w2 gn2 dv2 nx, fun cd => ?_⟩
  have cd' : s3.1 263 0 < s3.1 (86 + 2 * e) 0 := by have : ¬ s3.1 (86 + 2 * e) 0 ≤ s3.1 263 0 := cd; omega
  refine splitOff_b B3 g3 (by unfold opc; omega) (by omega) w2 en1 gd cd' hD (fun s4 P' K hP' dv' eK B4 k4 g4 f4 kp4 => ?_) (fun s4 P' hP' nd f4 => ?_)
  · have hs4 : dsp s4 (n1 + 1) + s4.1 265 0 ≤ D := by
      have ed : dsp s4 (n1 + 1) = dsp s3 n1 := by
        show dsp s4 n1 + _ = _
        have gd4 := dgo_u g4.2 g3.2
        have kd4 := dgo_mul hP'.2 g3.2 k4.2 eK (by
          have := pat_0 q2
          obtain ⟨k, hk⟩ := this
          have q1' := ply_fr (ply_fr q1 f2 (by omega) (by omega)) f3 (by omega) (by omega)
          exact ⟨k, by rw [ply_u hP' q1']; exact hk⟩)
        rw [dsp_one (s := s3) (e0 := e) en1 (fun e' h1 h2 => by
          obtain ⟨P2, u1, u2, u3⟩ := B3.2.2.1 e' h1
          exact dgo_u (kp4 e' h1 h2 P2 u1).2 u1.2)]
        omega
      rw [ed, f4.1 _ _ (by omega)]; exact hs3
    exact foldRest_99 ⟨n1 + 1, by omega, B4, ply_fr r3 f4 (by omega) (by omega), p1, hs4, gfr_trans fl3 (gfr_mono f4 (fun c k e => by omega) (fun c e => by omega))⟩ (ply_fr g3 f4 (by omega) (by omega)) w2 gn2 dv2 nx
  · have B4 : BI s4 n1 D := BI_co B3 f4 (fun e he => by omega) (fun e he => by omega) (by omega) (dI_co B3.2.2.2.2 f4 (by omega) (by omega))
    have hs4 : dsp s4 n1 + s4.1 265 0 ≤ D := by rw [dsp_co (s := s3) (fun e he => f4.1 _ _ (by omega)), f4.1 _ _ (by omega)]; exact hs3
    exact foldRest_99 ⟨n1, nn1, B4, ply_fr r3 f4 (by omega) (by omega), p1, hs4, gfr_trans fl3 (gfr_mono f4 (fun c k e => by omega) (fun c e => by omega))⟩ (ply_fr g3 f4 (by omega) (by omega)) w2 gn2 dv2 nx
/-- what addAtom changes -/
def adf (s s' : im_S) : Prop := gfr (fun c f => (c = 84 ∧ f = 2) ∨ (86 ≤ c ∧ c < 246 ∧ f = 0) ∨ (c = 247 ∧ (f = 3 ∨ f = 4)) ∨ ((c = 253 ∨ c = 255 ∨ c = 257 ∨ c = 259 ∨ c = 261 ∨ c = 263 ∨ c = 265) ∧ f = 0)) (fun c => (87 ≤ c ∧ c ≤ 246) ∨ (248 ≤ c ∧ c ≤ 252) ∨ c = 254 ∨ c = 256 ∨ c = 258 ∨ c = 260 ∨ c = 262 ∨ c = 264 ∨ c = 266) s s'
theorem addAtom_b {s : im_S} {n p : Nat} {D D' l2 : Int} {F : List Int} {Q : im_S → Prop} (hB : BI s n D) (hF : ply s p F) (bF : pab F 1000000000) (hp : p < 84) (hD : D + 8 ≤ D') (hD' : D' ≤ 80) (hQ : ∀ s' n', BI s' n' D' → adf s s' → Q s') : C_addAtom0 p l2 s Q := by
  refine copy6_b hF (by omega) (fun s1 h1 f1 => makePrimitive_b h1 (fun k => by have := bF k; omega) (fun s2 C g c2 g0 eg f2 => ?_))
  have fr2 : adf s s2 := gfr_trans (gfr_mono f1 (fun c k e => by omega) (fun c e => by omega)) (gfr_mono f2 (fun c k e => by omega) (fun c e => by omega))
  have B2 : BI s2 n D := by
    have B1 := BI_co hB f1 (fun e he => by omega) (fun e he => by omega) (by omega) (dI_co hB.2.2.2.2 f1 (by omega) (by omega))
    exact BI_co B1 f2 (fun e he => by omega) (fun e he => by omega) (by omega) (dI_co B1.2.2.2.2 f2 (by omega) (by omega))
  have bC : pab C 1000000000 := fun k => by
    have a := bF k
    rw [eg k, Int.natAbs_mul] at a
    have : 1 * (pgt C k).natAbs ≤ g.natAbs * (pgt C k).natAbs := Nat.mul_le_mul_right _ (by omega)
    omega
  refine ⟨fun a => ∃ n', BI a.2 n' D' ∧ adf s a.2 ∧ ∃ C, ply a.2 259 C ∧ ((∀ k, pgt C k = 0) ∨ pat C) ∧ dsp a.2 n' + max 0 (a.2.1 259 0) ≤ D', ⟨n, ⟨B2.1, B2.2.1, B2.2.2.1, by have := B2.2.2.2.1; dsimp only; omega, B2.2.2.2.2⟩, fr2, C, c2, ?_, ?_⟩, ?_⟩
  · by_cases c : ∀ k, pgt C k = 0
    · exact Or.inl c
    · refine Or.inr ⟨C, [1], fun x => by rw [pev_c1]; grind, ply_9 c2, Classical.byContradiction fun z => c (fun k => Classical.byContradiction fun w => z ⟨k, w⟩), bC⟩
  · have := c2.2.2.1
    have := B2.2.2.2.1
    dsimp only; omega
  rintro ⟨x, s3⟩ ⟨n3, B3, fr3, C3, c3, pc3, hs3⟩
  dsimp only at B3 fr3 c3 hs3 ⊢
  refine ⟨fun _ => hQ s3 n3 B3 fr3, fun _ => ⟨fun _ => hQ s3 n3 B3 fr3, fun cd => ?_⟩⟩
  have cd' : 1 ≤ s3.1 259 0 := by have : ¬ s3.1 259 0 ≤ 0 := cd; omega
  have pC : pat C3 := by
    rcases pc3 with q | q
    · exact absurd (q _) (c3.2.2.2.2 (by omega))
    · exact q
  refine setSlope_b2 c3 (by decide) (pat_b pC) (fun s4 S h4 bS f4 => ?_)
  have fr4 : adf s s4 := gfr_trans fr3 (gfr_mono f4 (fun c k e => by omega) (fun c e => by omega))
  have B4 : BI s4 n3 D' := BI_co B3 f4 (fun e he => by omega) (fun e he => by omega) (by omega) (dI_co B3.2.2.2.2 f4 (by omega) (by omega))
  have c4 : ply s4 259 C3 := ply_fr c3 f4 (by omega) (by omega)
  refine find_b B4.2.2.2.2 c4 h4 (by unfold opc; omega) (by unfold opc; omega) (pat_58 pC) bS (fun s5 G g5 w5 gn5 dv5 _ d5 f5 => ?_)
  have fr5 : adf s s5 := gfr_trans fr4 (gfr_mono f5 (fun c k e => by omega) (fun c e => by omega))
  have B5 : BI s5 n3 D' := BI_co B4 f5 (fun e he => by omega) (fun e he => by omega) (by omega) d5
  have c5 : ply s5 259 C3 := ply_fr c4 f5 (by omega) (by omega)
  refine copy6_b g5 (by decide) (fun s6 g6 f6 => ?_)
  have fr6 : adf s s6 := gfr_trans fr5 (gfr_mono f6 (fun c k e => by omega) (fun c e => by omega))
  have B6 : BI s6 n3 D' := BI_co B5 f6 (fun e he => by omega) (fun e he => by omega) (by omega) (dI_co d5 f6 (by omega) (by omega))
  have c6 : ply s6 259 C3 := ply_fr c5 f6 (by omega) (by omega)
  refine divide_b c6 g6 (by decide) (by decide) (by decide) (by decide) (pat_58 pC) w5 (fun _ _ s7 K k7 e7 f7 => ?_) (fun nd s7 f7 => ?_)
  · have fr7 : adf s s7 := gfr_trans fr6 (gfr_mono f7 (fun c k e => by omega) (fun c e => by omega))
    have B7 : BI s7 n3 D' := BI_co B6 f7 (fun e he => by omega) (fun e he => by omega) (by omega) (dI_co B6.2.2.2.2 f7 (by omega) (by omega))
    have g7 : ply s7 261 G := ply_fr g6 f7 (by omega) (by omega)
    refine copy6_b k7 (by decide) (fun s8 k8 f8 => ?_)
    have fr8 : adf s s8 := gfr_trans fr7 (gfr_mono f8 (fun c k e => by omega) (fun c e => by omega))
    have B8 : BI s8 n3 D' := BI_co B7 f8 (fun e he => by omega) (fun e he => by omega) (by omega) (dI_co B7.2.2.2.2 f8 (by omega) (by omega))
    have g8 : ply s8 261 G := ply_fr g7 f8 (by omega) (by omega)
    refine copy6_b g8 (by decide) (fun s9 g9 f9 => ?_)
    have fr9 : adf s s9 := gfr_trans fr8 (gfr_mono f9 (fun c k e => by omega) (fun c e => by omega))
    have B9 : BI s9 n3 D' := BI_co B8 f9 (fun e he => by omega) (fun e he => by omega) (by omega) (dI_co B8.2.2.2.2 f9 (by omega) (by omega))
    have k9 : ply s9 265 K := ply_fr k8 f9 (by omega) (by omega)
    have dd := dgo_mul c3.2 g9.2 k9.2 e7 (pat_0 pC)
    have gn := dgo_0 g9.2 gn5
    have n80 := B3.2.1
    have ds9 : dsp s9 n3 = dsp s3 n3 := by
      rw [dsp_co (s := s8) (fun e he => f9.1 _ _ (by omega)), dsp_co (s := s7) (fun e he => f8.1 _ _ (by omega)), dsp_co (s := s6) (fun e he => f7.1 _ _ (by omega)), dsp_co (s := s5) (fun e he => f6.1 _ _ (by omega)), dsp_co (s := s4) (fun e he => f5.1 _ _ (by omega)), dsp_co (s := s3) (fun e he => f4.1 _ _ (by omega))]
    have B9' : BI s9 n3 (dsp s3 n3 + s9.1 265 0) := ⟨B9.1, B9.2.1, B9.2.2.1, by rw [ds9]; have := dgo_0 k9.2 (ne_of_mul e7 (pat_0 pC)).2; omega, B9.2.2.2.2⟩
    refine foldRest_b B9' k9 (pat_r pC e7) (by rw [ds9]; omega) (by omega) (fun s10 n10 B10 f10 => ⟨n10, ⟨B10.1, B10.2.1, B10.2.2.1, by have := B10.2.2.2.1; dsimp only; omega, B10.2.2.2.2⟩, gfr_trans fr9 (gfr_mono f10 (fun c k e => by omega) (fun c e => by omega)), G, ply_fr g9 f10 (by omega) (by omega), Or.inr (pat_l pC e7), ?_⟩)
    have := B10.2.2.2.1
    dsimp only
    rw [f10.1 _ _ (by omega)]
    omega
  · exfalso
    rcases nd with q | q
    · exact q dv5
    · obtain ⟨k, hk⟩ := gn5
      exact hk (q k)
