/-! makeChain gives Sturm's chain -/
theorem eu_png {A B X Y : List Int} (h : eu A B X Y) : eu A B X (png Y) := by
  obtain ⟨h1, h2, h3, h4, h5, h6, h7, h8, h9, h10, u', v', u, v, c', c, d, e1, e2, e3, e4, e5, e6, e7, e8, e9, e10, e11⟩ := h
  have im : ((-1 : Int) : Rat) = -1 := rfl
  have ln := png_len Y
  refine ⟨h1, h2, fun n hn => ?_, h4, fun q d hd => ?_, by omega, h7, by omega, h9, fun E z1 z2 => h10 E z1 ?_, u', v', psm (-1) u, psm (-1) v, c', c, -d, e1, e2, by omega, e4, fun t => ?_, fun t => ?_, pdb_sm e7, ?_, pdb_sm e9, by rw [ln]; exact e10, by rw [ln]; exact e11⟩
  · rw [ln] at hn
    have := h3 n hn
    rw [png_gt]; omega
  · have Yn : Y ≠ [] := fun e => q (by rw [e]; rfl)
    exact h5 Yn d (fun k => by
      have := hd k
      rw [png_gt] at this
      exact (Int.dvd_neg).1 this)
  · obtain ⟨c2, K, c20, e⟩ := z2
    refine ⟨c2, psm (-1) K, c20, fun x => ?_⟩
    have w := e x
    rw [png_ev] at w
    rw [psm_ev, im]; grind
  · have w := e5 t
    rw [png_ev, psm_ev, psm_ev, im]; grind
  · have w := e6 t
    rw [psm_ev, psm_ev, im, Rat.intCast_neg]; grind
  · rw [psm_gt]; omega
theorem der_fct {F D : List Int} (fF : fct F) (h2 : 2 ≤ F.length) (h : cr 0 (pdl F) D) : D.length = F.length - 1 ∧ lnz D ∧ prm1 D ∧ pab D (8 * p27) := by
  obtain ⟨h1, h3, h4, g, g0, _, e⟩ := h
  have pl : (pdl F).length = F.length - 1 := pmk_len _ _
  obtain ⟨n, hn⟩ : ∃ n, F.length = n + 2 := ⟨F.length - 2, by omega⟩
  have tp : pgt (pdl F) n ≠ 0 := by
    rw [pdl_gt]
    exact Int.mul_ne_zero (fF.1.2.2.1 (n + 1) (by omega)) (by omega)
  have lD : D.length = F.length - 1 := by
    refine Nat.le_antisymm (by omega) (Nat.le_of_not_lt fun c => tp ?_)
    rw [e n, pgt_hi D n (by omega), Int.mul_zero]
  have Dn : D ≠ [] := fun q => by rw [q] at lD; simp at lD; omega
  refine ⟨lD, fun n hn => (h3 n hn).1, h4 Dn, fun k => ?_⟩
  have le : (pgt D k).natAbs ≤ (g * pgt D k).natAbs := by
    rw [Int.natAbs_mul]; exact Nat.le_mul_of_pos_left _ (by omega)
  rw [← e k, pdl_gt, Int.natAbs_mul] at le
  have F9 := fF.1.2.1
  by_cases c : k < 8
  · have m : (pgt F (k + 1)).natAbs * ((k : Int) + 1).natAbs ≤ p27 * 8 := Nat.mul_le_mul (fct_pab fF (k + 1)) (by omega)
    omega
  · rw [pgt_hi D k (by omega)]; show (0 : Int).natAbs ≤ _; omega
def utab : List (List Nat) := [[0, 570, 3135, 7125, 12540, 19380, 27645, 37335, 48450, 60990], [0, 1140, 3135, 7125, 12540, 19380, 27645, 37335, 48450, 60990], [0, 2565, 4275, 7125, 12540, 19380, 27645, 37335, 48450, 60990], [0, 5130, 6555, 8835, 12540, 19380, 27645, 37335, 48450, 60990], [0, 9120, 10260, 11970, 14820, 19380, 27645, 37335, 48450, 60990], [0, 14820, 15675, 16815, 18810, 22230, 27645, 37335, 48450, 60990], [0, 22515, 23085, 23655, 24795, 27075, 31065, 37335, 48450, 60990], [0, 32490, 32775, 32775, 33060, 34200, 36765, 41325, 48450, 60990], [0, 45030, 45030, 44460, 43890, 43890, 45030, 47880, 53010, 60990], [0, 60420, 60135, 58995, 57570, 56430, 56145, 57285, 60420, 66120]]
def utC (l m : Nat) : Nat := (utab.getD l []).getD m 0
theorem ut_1 : ∀ l, l < 10 → ∀ m, m < 10 → ∀ k, k < 10 → (1 ≤ m ∧ k < m) → rco l m 56 56 + 10 * (56 + 1) + utC m k ≤ utC l m := by decide +kernel
theorem ut_9 : ∀ l, l < 10 → ∀ m, m < 10 → utC l m ≤ utC 9 9 := by decide +kernel
theorem ut_n : utC 9 9 ≤ 66200 := by decide +kernel
theorem rest_lb8 {F D X Y R : List Int} (lF : lnz F) (lD : lnz D) (HF : pab F (8 * p27)) (HD : pab D (8 * p27)) (l1 : F.length ≤ 9) (l2 : D.length ≤ 9) (h : eu F D X Y) (hY : 1 ≤ Y.length) (hr : rr X Y R) (hR : R ≠ []) : plb R 56 := by
  have st1 := eu_step h hY hr
  have R1 : 1 ≤ R.length := by
    rcases Nat.eq_zero_or_pos R.length with q | q
    · exact absurd (List.eq_nil_of_length_eq_zero q) hR
    · exact q
  have lY : Y.length ≤ D.length := h.2.2.2.2.2.2.2.1
  by_cases c1 : R.length = 1
  · intro k
    have := one_lb (st1.2.2.2.2.2.1 hR) c1 k
    omega
  · intro k
    have b := eu_bound lF lD HF HD (by decide) h hY hr hR k
    have l3 := st1.1
    have b2 := pw_nn (m := F.length + D.length - 2 * R.length) (n := 14) (H := 8 * p27) (by omega) (by decide) (by decide)
    refine lim_le (Nat.lt_of_le_of_lt (Nat.le_trans b b2) ?_)
    decide +kernel
theorem makeChain_st {s : im_S} {f : Int} {F : List Int} {Q : im_S → Prop} (hf : pol s f F) (hb : bs F) (hp : wgf s 28 + 12 ≤ 1200) (h0 : 0 ≤ wgf s 24) (hm : wgf s 24 + 150000 ≤ 684000) (hQ : ∀ s' c N, pw [29] [600] (wgf s 24) (wgf s 28) s s' → wgf s 24 ≤ wgf s' 24 → wgf s' 24 ≤ wgf s 24 + 69000 → wgf s 28 ≤ wgf s' 28 → wgf s' 28 ≤ wgf s 28 + 11 → c 0 = F → 2 ≤ N → N ≤ F.length → stu c (N - 1) → chn s' c N 56 → Q s') : W_makeChain f s Q := by
  have fF := hb.1
  have F2 := hb.2.2.1
  have F9 := fF.1.2.1
  have un := ut_n
  have HF : pab F (8 * p27) := fun k => by have := fct_pab fF k; omega
  have lb3 : plb F 56 := fun k => by have := pab_lb (fct_pab fF) k; omega
  have hBB : ∀ A B, (∃ D, cr 0 (pdl F) D ∧ eu F D A B ∧ B.length < A.length ∧ 1 ≤ B.length ∧ plb A 56 ∧ plb B 56) → plb A 56 ∧ plb B 56 ∧ 1 ≤ A.length ∧ 1 ≤ B.length ∧ B.length < A.length ∧ (∀ n, B.length = n + 1 → pgt B n ≠ 0) := by
    rintro A B ⟨D, _, h1, h2, h3, h4, h5⟩
    exact ⟨h4, h5, h1.1, h3, h2, h1.2.2.1⟩
  refine makeChain_ok (M := 56) (C := utC) (Inv := fun A B => ∃ D, cr 0 (pdl F) D ∧ eu F D A B ∧ B.length < A.length ∧ 1 ≤ B.length ∧ plb A 56 ∧ plb B 56) hf (by omega) lb3 (fun R _ hR => ?_) (fun A B R hI hB1 hr hRn => ?_) hBB (fun l m m' hl hm1 hm9 hmm => ut_1 l (by omega) m (by omega) m' (by omega) ⟨hm1, hmm⟩) (fun l m hl hm9 => ut_9 l (by omega) m (by omega)) (by omega) h0 (by omega) (fun s' q => by omega) (fun s' c N _ a1 a2 a3 a4 a5 a6 a7 a8 => hQ s' c N a1 a2 (by omega) a3 (by omega) a5.1 a5.2.1 a5.2.2.1 (chain_stu (fun A B hI => ⟨(hBB A B hI).2.2.1, (hBB A B hI).2.2.2.1, (hBB A B hI).2.2.2.2.1, (hBB A B hI).2.2.2.2.2⟩) fF.1.2.2.1 a5 a6 hb.2.1) a7)
  · obtain ⟨lD, nD, pD, bD⟩ := der_fct fF F2 hR
    refine ⟨R, hR, eu_init (by omega) fF.1.2.2.1 nD fF.1.2.2.2.2 pD (by omega) (by omega), by omega, by omega, lb3, fun k => ?_⟩
    refine Nat.le_trans (lim_le (n := 4) (Nat.lt_of_le_of_lt (bD k) (by decide))) (by decide)
  · obtain ⟨D, hD, h1, h2, h3, h4, h5⟩ := hI
    obtain ⟨lD, nD, pD, bD⟩ := der_fct fF F2 hD
    have st1 := eu_step h1 hB1 hr
    have lb := rest_lb8 fF.1.2.2.1 nD HF bD F9 (by omega) h1 hB1 hr hRn
    have R1 : 1 ≤ R.length := by
      rcases Nat.eq_zero_or_pos R.length with q | q
      · exact absurd (List.eq_nil_of_length_eq_zero q) hRn
      · exact q
    refine ⟨D, hD, eu_png st1.2, by rw [png_len]; exact st1.1, by rw [png_len]; exact R1, h5, fun k => ?_⟩
    rw [png_gt, lim_neg]; exact lb k
