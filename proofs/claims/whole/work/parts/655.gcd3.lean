/-! common2 gives the greatest common divisor -/
theorem qd_len {H F : List Int} (h : qd H F) (hH : lnz H) (H1 : 1 ≤ H.length) (hF : lnz F) (F1 : 1 ≤ F.length) : H.length ≤ F.length := by
  obtain ⟨c, K, c0, e⟩ := h
  obtain ⟨a, ha⟩ : ∃ a, H.length = a + 1 := ⟨H.length - 1, by omega⟩
  obtain ⟨b, hb⟩ : ∃ b, F.length = b + 1 := ⟨F.length - 1, by omega⟩
  refine Classical.byContradiction fun hc => ?_
  have z : pdb K 0 := dcan (Z := K) (A := H) (T := psm c F) (a := a) (fun x => by rw [psm_ev, Rat.mul_comm]; exact (e x).symm) (pdb_mono (pdb_len H) (by omega)) (hH a ha) (pdb_sm (pdb_mono (pdb_len F) (by omega)))
  have w : pgt (psm c F) b = 0 := pev_zero (fun x => by
    rw [psm_ev, e x, pev_eq (P := K) (R := []) (fun k => z k (by omega)) x]
    show pev H x * 0 = 0
    grind) b
  rw [psm_gt] at w
  rcases Int.mul_eq_zero.1 w with q | q
  · exact c0 q
  · exact hF b hb q
def gcdof (F G H : List Int) : Prop := 1 ≤ H.length ∧ lnz H ∧ 0 < pgt H (H.length - 1) ∧ prm1 H ∧ qd H F ∧ qd H G ∧ ∃ (c : Int) (u v : List Int), c ≠ 0 ∧ ∀ x : Rat, c * pev H x = pev u x * pev F x + pev v x * pev G x
theorem cr_full {P R : List Int} (h : cr 1 P R) (hP : lnz P) (P1 : 1 ≤ P.length) : R.length = P.length ∧ lnz R ∧ 0 < pgt R (R.length - 1) ∧ prm1 R ∧ qd R P ∧ qd P R := by
  obtain ⟨h1, h2, h3, g, g0, _, e⟩ := h
  obtain ⟨n, hn⟩ : ∃ n, P.length = n + 1 := ⟨P.length - 1, by omega⟩
  have el : R.length = P.length := by
    refine Nat.le_antisymm h1 (Nat.le_of_not_lt fun c => ?_)
    have w := e n
    rw [pgt_hi R n (by omega), Int.mul_zero] at w
    exact hP n hn w
  have Rn : R ≠ [] := fun q => by rw [q] at el; simp at el; omega
  refine ⟨el, fun m hm => (h2 m hm).1, ?_, h3 Rn, ⟨1, psm g [1], by decide, fun x => ?_⟩, ⟨g, [1], g0, fun x => ?_⟩⟩
  · rw [el, hn]
    exact (h2 n (by omega)).2 (by decide)
  · rw [psm_ev, pev_c1, rat_i1, pev_csc e x]; grind
  · rw [pev_c1, pev_csc e x]; grind
theorem common2_gcd {s : im_S} {f g : Int} {F G : List Int} {Q : Int → im_S → Prop} (hf : pol s f F) (hg : pol s g G) (F1 : 1 ≤ F.length) (G1 : 1 ≤ G.length) (lF : lnz F) (lG : lnz G) (pF : prm1 F) (pG : prm1 G) (HF : pab F p27) (HG : pab G p27) (hp : wgf s 28 + G.length + 1 ≤ 1200) (h0 : 0 ≤ wgf s 24) (hm : wgf s 24 + ctC 0 F.length G.length + 15000 ≤ 684000) (hQ : ∀ (h : Int) (s' : im_S) (H : List Int), ps s s' → wgf s' 28 ≤ wgf s 28 + G.length + 1 → wgf s 28 ≤ h → pol s' h H → gcdof F G H → wgf s' 24 ≤ wgf s 24 + ctC 0 F.length G.length → Q h s') : W_common2 f g s Q := by
  have l9F := hf.2.2.2.1
  have l9G := hg.2.2.2.1
  refine common2_ph (K := 72) (ML := mML) (MR := mMR) (C := ctC) (Inv := fun p X Y => (p = 0 ∧ X = F ∧ Y = G) ∨ (p = 1 ∧ X = G ∧ Y = F ∧ F.length < G.length) ∨ ((p = 2 ∨ p = 3) ∧ Y.length < X.length ∧ plb X (mML p X.length) ∧ plb Y (mMR p Y.length) ∧ ∃ A B, ((A = F ∧ B = G) ∨ (A = G ∧ B = F)) ∧ eu A B X Y)) hf hg (Or.inl ⟨rfl, rfl, rfl⟩) ?_ ?_ ?_ ?_ hp h0 (by omega) ?_
  · intro p X Y R hI hY hX9 hY9 hr
    have mbs : ∀ A B, ((A = F ∧ B = G) ∨ (A = G ∧ B = F)) → lnz A ∧ lnz B ∧ pab A p27 ∧ pab B p27 ∧ A.length ≤ 9 ∧ B.length ≤ 9 := by
      intro A B h
      rcases h with ⟨rfl, rfl⟩ | ⟨rfl, rfl⟩
      · exact ⟨lF, lG, HF, HG, l9F, l9G⟩
      · exact ⟨lG, lF, HG, HF, l9G, l9F⟩
    rcases hI with ⟨rfl, rfl, rfl⟩ | ⟨rfl, rfl, rfl, hlt⟩ | ⟨hp2, hlt, b1, b2, A, B, hAB, he⟩
    · by_cases c : X.length < Y.length
      · rcases hr with q | q
        · rw [q.2]
          exact ⟨1, Or.inr (Or.inl ⟨rfl, rfl, rfl, c⟩), c, (ct_0 X.length (by omega) Y.length (by omega)).2 ⟨F1, c⟩⟩
        · omega
      · have he := eu_init F1 lF lG pF pG G1 (by omega)
        have st1 := eu_step he hY hr
        have lb := rest_lb lF lG HF HG l9F l9G he hY hr
        refine ⟨2, Or.inr (Or.inr ⟨Or.inl rfl, st1.1, pab_lb HG, lb, X, Y, Or.inl ⟨rfl, rfl⟩, st1.2⟩), st1.1, ?_⟩
        rw [(ct_0 X.length (by omega) Y.length (by omega)).1 ⟨F1, G1, by omega⟩]
        exact ct_1 X.length (by omega) Y.length (by omega) R.length (by omega) ⟨G1, by omega, st1.1⟩
    · have he := eu_init G1 lG lF pG pF F1 (by omega)
      have st1 := eu_step he hY hr
      have lb := rest_lb lG lF HG HF l9G l9F he hY hr
      exact ⟨2, Or.inr (Or.inr ⟨Or.inl rfl, st1.1, pab_lb HF, lb, X, Y, Or.inr ⟨rfl, rfl⟩, st1.2⟩), st1.1, ct_1 X.length (by omega) Y.length (by omega) R.length (by omega) ⟨F1, by omega, st1.1⟩⟩
    · obtain ⟨q1, q2, q3, q4, q5, q6⟩ := mbs A B hAB
      have st1 := eu_step he hY hr
      have lb := rest_lb q1 q2 q3 q4 q5 q6 he hY hr
      refine ⟨3, Or.inr (Or.inr ⟨Or.inr rfl, st1.1, ?_, lb, A, B, hAB, st1.2⟩), st1.1, ?_⟩
      · rcases hp2 with rfl | rfl
        · exact b2
        · exact b2
      · rcases hp2 with rfl | rfl
        · exact ct_2 X.length (by omega) Y.length (by omega) R.length (by omega) ⟨hY, by omega, st1.1⟩
        · exact ct_3 X.length (by omega) Y.length (by omega) R.length (by omega) ⟨hY, by omega, st1.1⟩
  · intro p X Y hI
    have mk : ∀ l, mbl l ≤ 72 := by
      intro l
      unfold mbl
      split <;> omega
    have mk2 : ∀ p l, mML p l ≤ 72 ∧ mMR p l ≤ 72 := by
      intro p l
      have := mk l
      unfold mML mMR
      constructor <;> split <;> omega
    rcases hI with ⟨rfl, rfl, rfl⟩ | ⟨rfl, rfl, rfl, hlt⟩ | ⟨hp2, hlt, b1, b2, A, B, hAB, he⟩
    · exact ⟨pab_lb HF, pab_lb HG, F1, lG, (mk2 _ _).1, (mk2 _ _).2⟩
    · exact ⟨pab_lb HG, pab_lb HF, G1, lF, (mk2 _ _).1, (mk2 _ _).2⟩
    · exact ⟨b1, b2, he.1, he.2.2.1, (mk2 _ _).1, (mk2 _ _).2⟩
  · intro p X Y hI hY hX9 hY9
    rcases hI with ⟨rfl, rfl, rfl⟩ | ⟨rfl, rfl, rfl, hlt⟩ | ⟨hp2, hlt, b1, b2, A, B, hAB, he⟩
    · by_cases c : X.length < Y.length
      · have w := (ct_0 X.length (by omega) Y.length (by omega)).2 ⟨F1, c⟩
        show rco X.length Y.length 3 3 + (3 + 1) ≤ _
        omega
      · rw [(ct_0 X.length (by omega) Y.length (by omega)).1 ⟨F1, G1, by omega⟩]
        have w := ct_1 X.length (by omega) Y.length (by omega) 0 (by omega) ⟨G1, by omega, by omega⟩
        show rco X.length Y.length 3 3 + (3 + 1) ≤ _
        omega
    · have w := ct_1 X.length (by omega) Y.length (by omega) 0 (by omega) ⟨F1, by omega, by omega⟩
      show rco X.length Y.length 3 3 + (3 + 1) ≤ _
      omega
    · rcases hp2 with rfl | rfl
      · have w := ct_2 X.length (by omega) Y.length (by omega) 0 (by omega) ⟨hY, by omega, by omega⟩
        show rco X.length Y.length 3 (mbl Y.length) + (mbl Y.length + 1) ≤ _
        omega
      · have w := ct_3 X.length (by omega) Y.length (by omega) 0 (by omega) ⟨hY, by omega, by omega⟩
        show rco X.length Y.length (mbl X.length) (mbl Y.length) + (mbl Y.length + 1) ≤ _
        omega
  · intro p l hl9 hl1 hE
    obtain ⟨E, hI, eE⟩ := hE
    rcases hI with ⟨rfl, rfl, e⟩ | ⟨rfl, rfl, e, hlt⟩ | ⟨hp2, hlt, b1, b2, A, B, hAB, he⟩
    · rw [← e] at G1; exact absurd G1 (by decide)
    · rw [← e] at F1; exact absurd F1 (by decide)
    · have w := ct_z l (by omega) hl1
      rcases hp2 with rfl | rfl
      · exact w.2
      · exact w.1
  · intro h s' p E R a1 a2 a3 a4 hI a5 a6
    rcases hI with ⟨rfl, rfl, e⟩ | ⟨rfl, rfl, e, hlt⟩ | ⟨hp2, hlt, b1, b2, A, B, hAB, he⟩
    · rw [← e] at G1; exact absurd G1 (by decide)
    · rw [← e] at F1; exact absurd F1 (by decide)
    · obtain ⟨h1, h2, h3, h4, h5, h6, h7, h8, h9, h10, u', v', u, v, c', c, d, e1, e2, e3, e4, e5⟩ := he
      obtain ⟨r1, r2, r3, r4, r5, r6⟩ := cr_full a5 h2 h1
      have dv := h10 E (qd_rfl E) (qd_nil E)
      obtain ⟨c2, K2, c20, q2⟩ := r5
      refine hQ h s' R a1 a2 a3 a4 ?_ a6
      have base : ∀ x : Rat, c' * pev E x = pev u' x * pev A x + pev v' x * pev B x := e4
      obtain ⟨_, _, _, g, g0, _, eg⟩ := a5
      rcases hAB with ⟨rfl, rfl⟩ | ⟨rfl, rfl⟩
      · refine ⟨by omega, r2, r3, r4, qd_trans ⟨c2, K2, c20, q2⟩ dv.1, qd_trans ⟨c2, K2, c20, q2⟩ dv.2, c' * g, u', v', Int.mul_ne_zero e1 g0, fun x => ?_⟩
        have w := base x
        rw [pev_csc eg x] at w
        rw [Rat.intCast_mul]
        grind
      · refine ⟨by omega, r2, r3, r4, qd_trans ⟨c2, K2, c20, q2⟩ dv.2, qd_trans ⟨c2, K2, c20, q2⟩ dv.1, c' * g, v', u', Int.mul_ne_zero e1 g0, fun x => ?_⟩
        have w := base x
        rw [pev_csc eg x] at w
        rw [Rat.intCast_mul]
        grind
