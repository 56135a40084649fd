/-! share DIVIDES EXACTLY -/
def gd (P : List Int) : Prop := 1 ≤ P.length ∧ P.length ≤ 9 ∧ lnz P ∧ 0 < pgt P (P.length - 1) ∧ prm1 P
theorem prm1_dvd {Y : List Int} {d e : Int} (hY : prm1 Y) (hd : d ≠ 0) (h : ∀ k, d ∣ e * pgt Y k) : d ∣ e := by
  by_cases e0 : e = 0
  · rw [e0]; exact Int.dvd_zero d
  have hn : ∀ k, d.natAbs ∣ e.natAbs * (pgt Y k).natAbs := fun k => by
    rw [← Int.natAbs_mul]; exact Int.natAbs_dvd_natAbs.2 (h k)
  obtain ⟨g, hg⟩ : ∃ g, g = Nat.gcd d.natAbs e.natAbs := ⟨_, rfl⟩
  have g0 : 0 < g := by rw [hg]; exact Nat.gcd_pos_of_pos_left _ (by omega)
  obtain ⟨d1, hd1⟩ : g ∣ d.natAbs := by rw [hg]; exact Nat.gcd_dvd_left _ _
  obtain ⟨e1, he1⟩ : g ∣ e.natAbs := by rw [hg]; exact Nat.gcd_dvd_right _ _
  have cop : Nat.Coprime d1 e1 := by
    have q : g * Nat.gcd d1 e1 = g * 1 := by
      rw [← Nat.gcd_mul_left, ← hd1, ← he1, ← hg, Nat.mul_one]
    exact Nat.eq_of_mul_eq_mul_left g0 q
  have dv : ∀ k, (d1 : Int) ∣ pgt Y k := fun k => by
    refine Int.ofNat_dvd_left.2 (Nat.Coprime.dvd_of_dvd_mul_left cop ?_)
    have q := hn k
    rw [hd1, he1, Nat.mul_assoc] at q
    exact Nat.dvd_of_mul_dvd_mul_left g0 q
  have d11 : d1 = 1 := Nat.dvd_one.1 (Int.ofNat_dvd_left.1 (hY _ dv))
  rw [d11, Nat.mul_one] at hd1
  refine Int.natAbs_dvd_natAbs.1 ?_
  rw [hd1, he1]
  exact Nat.dvd_mul_right _ _
theorem shq_top {F G : List Int} (hF : lnz F) (hG : lnz G) (G1 : 1 ≤ G.length) (hFG : G.length ≤ F.length) : lnz (shq F G) ∧ (shq F G).length = F.length + 1 - G.length := by
  have l : (shq F G).length = F.length + 1 - G.length := pmk_len _ _
  refine ⟨fun n hn => ?_, l⟩
  rw [l] at hn
  unfold shq
  obtain ⟨m, hm⟩ : ∃ m, G.length = m + 1 := ⟨G.length - 1, by omega⟩
  obtain ⟨f, hf⟩ : ∃ f, F.length = f + 1 := ⟨F.length - 1, by omega⟩
  rw [pmk_gt, if_pos (by omega), show F.length - G.length - n = 0 by omega, show G.length - 1 = m by omega]
  show pgt G m ^ n * pgt F (n + m) ≠ 0
  rw [show n + m = f by omega]
  exact Int.mul_ne_zero (Int.pow_ne_zero (hG m hm)) (hF f hf)
theorem sh_exact {F G S : List Int} (hF : gd F) (hG : gd G) (hq : qd G F) (hS : cr 1 (shq F G) S) : gd S ∧ S.length + G.length = F.length + 1 ∧ ∀ x : Rat, pev F x = pev G x * pev S x := by
  obtain ⟨F1, F9, lF, pF, rF⟩ := hF
  obtain ⟨G1, G9, lG, pG, rG⟩ := hG
  have hFG := qd_len hq lG G1 lF F1
  have tp := shq_top lF lG G1 hFG
  obtain ⟨s1, s2, s3, s4, _, _⟩ := cr_full hS tp.1 (by omega)
  obtain ⟨_, _, _, ga, ga0, _, eS⟩ := hS
  obtain ⟨R, r1, r2⟩ := shq_id G1 hFG
  obtain ⟨c, K, c0, eK⟩ := hq
  obtain ⟨m, hm⟩ : ∃ m, G.length = m + 1 := ⟨G.length - 1, by omega⟩
  obtain ⟨f, hf⟩ : ∃ f, F.length = f + 1 := ⟨F.length - 1, by omega⟩
  obtain ⟨L, hL⟩ : ∃ L, L = pgt G (G.length - 1) ^ (F.length + 1 - G.length) := ⟨_, rfl⟩
  have L0 : L ≠ 0 := by rw [hL, show G.length - 1 = m by omega]; exact Int.pow_ne_zero (lG m hm)
  have r2' : ∀ x : Rat, L * pev F x = pev (shq F G) x * pev G x + pev R x := fun x => by
    rw [hL, Rat.intCast_pow]; exact r2 x
  have im : ((-1 : Int) : Rat) = -1 := rfl
  have z : pdb (padd (psm L K) (psm (-c) (shq F G))) 0 := dcan (A := G) (T := psm c R) (a := m) (fun x => by
    rw [padd_ev, psm_ev, psm_ev, psm_ev, Rat.intCast_neg]
    have a := r2' x
    have b := eK x
    grind) (pdb_mono (pdb_len G) (by omega)) (lG m hm) (pdb_sm (pdb_mono (pdb_len R) (by omega)))
  have e1 : ∀ x : Rat, L * pev K x = c * pev (shq F G) x := fun x => by
    have w := pev_eq (R := []) (fun k => z k (by omega)) x
    rw [padd_ev, psm_ev, psm_ev, Rat.intCast_neg] at w
    have w2 : pev [] x = 0 := rfl
    rw [w2] at w
    grind
  have cr0 : (c : Rat) ≠ 0 := fun q => c0 (Rat.intCast_eq_zero_iff.1 q)
  have e2 : ∀ x : Rat, L * pev F x = pev G x * pev (psm ga S) x := fun x => by
    rw [psm_ev, ← pev_csc eS x]
    have a := e1 x
    have b := eK x
    have w : (c : Rat) * (L * pev F x - pev G x * pev (shq F G) x) = 0 := by grind
    rcases Rat.mul_eq_zero.1 w with q | q
    · exact absurd q cr0
    · grind
  obtain ⟨K', eK'⟩ := gauss L.natAbs L G F (psm ga S) (Nat.le_refl _) L0 rG e2
  have e3 : ∀ k, L * pgt K' k = ga * pgt S k := fun k => by
    rw [← psm_gt, ← psm_gt]
    refine pev_inj (fun x => ?_) k
    have w := pev_can (G := G) (Z := padd (psm L K') (psm (-1) (psm ga S))) lG G1 (fun x => by
      rw [padd_ev, psm_ev, psm_ev, im]
      have a := e2 x
      have b := eK' x
      grind) x
    rw [padd_ev, psm_ev (-1), im] at w
    grind
  obtain ⟨mm, hmm⟩ : L ∣ ga := prm1_dvd s4 L0 (fun k => ⟨pgt K' k, (e3 k).symm⟩)
  have e4 : ∀ k, pgt K' k = mm * pgt S k := fun k => by
    have w := e3 k
    rw [hmm, Int.mul_assoc] at w
    exact Int.eq_of_mul_eq_mul_left L0 w
  have e5 : ∀ x : Rat, pev F x = mm * (pev G x * pev S x) := fun x => by
    rw [eK' x, pev_csc e4 x]; grind
  have e6 : ∀ k, pgt F k = mm * pgt (pmul G S) k := fun k => by
    rw [← psm_gt]
    exact pev_inj (fun x => by rw [psm_ev, pmul_ev]; exact e5 x) k
  have m1 : mm ∣ 1 := rF mm (fun k => ⟨_, e6 k⟩)
  have mp : mm = 1 := by
    have a := Int.natAbs_dvd_natAbs.2 m1
    have b := Nat.dvd_one.1 a
    have tpS := pdb_top (P := G) (Q := S) (m := m) (n := F.length - G.length) (pdb_mono (pdb_len G) (by omega)) (pdb_mono (pdb_len S) (by omega))
    have t := e6 (m + (F.length - G.length))
    rw [tpS, show m + (F.length - G.length) = F.length - 1 by omega] at t
    rw [show G.length - 1 = m by omega] at pG
    rw [show S.length - 1 = F.length - G.length by omega] at s3
    have pos : 0 < pgt G m * pgt S (F.length - G.length) := Int.mul_pos pG s3
    rcases (by omega : mm = 1 ∨ mm = -1) with q | q
    · exact q
    · rw [q] at t
      omega
  refine ⟨⟨by omega, by omega, s2, s3, s4⟩, by omega, fun x => ?_⟩
  rw [e5 x, mp, rat_i1]; grind
theorem dvz_qd {A F : List Int} (h : dvz A F) : qd A F := by
  obtain ⟨K, e⟩ := h
  exact ⟨1, K, by decide, fun x => by rw [rat_i1, e x]; grind⟩
theorem qd_dvz {A F : List Int} (hA : prm1 A) (h : qd A F) : dvz A F := by
  obtain ⟨c, K, c0, e⟩ := h
  exact gauss c.natAbs c A F K (Nat.le_refl _) c0 hA e
theorem dvz_trans {A B C : List Int} (h1 : dvz A B) (h2 : dvz B C) : dvz A C := by
  obtain ⟨K1, e1⟩ := h1
  obtain ⟨K2, e2⟩ := h2
  exact ⟨pmul K1 K2, fun x => by rw [pmul_ev, e2 x, e1 x]; grind⟩
theorem dvz_rfl (A : List Int) : dvz A A := ⟨[1], fun x => by rw [pev_c1]; grind⟩
/-- what the reference has read for an atom, cleaned -/
def org (F : List Int) : Prop := gd F ∧ pab F 1000000000
/-- a factor of one of these -/
def fct (P : List Int) : Prop := gd P ∧ ∃ F, org F ∧ dvz P F
theorem fct_pab {P : List Int} (h : fct P) : pab P p27 := by
  obtain ⟨g, F, o, d⟩ := h
  refine fac_bound d g.2.1 o.1.2.1 (fun z => ?_) o.2
  have := o.1.2.2.2.1
  rw [z] at this
  omega
theorem fct_dv {P R : List Int} (h : fct P) (hR : gd R) (hd : dvz R P) : fct R := by
  obtain ⟨g, F, o, d⟩ := h
  exact ⟨hR, F, o, dvz_trans hd d⟩
theorem gcdof_gd {F G H : List Int} (h : gcdof F G H) (hF : gd F) : gd H := by
  obtain ⟨h1, h2, h3, h4, h5, h6, _⟩ := h
  have := qd_len h5 h2 h1 hF.2.2.1 hF.1
  exact ⟨h1, by have := hF.2.1; omega, h2, h3, h4⟩
theorem share_fc {s : im_S} {f g : Int} {F G : List Int} {Q : Int → im_S → Prop} (hf : pol s f F) (hg : pol s g G) (hF : fct F) (hG : gd G) (hd : qd G F) (hp : wgf s 28 + 2 ≤ 1200) (h0 : 0 ≤ wgf s 24) (hm : wgf s 24 + 4500 ≤ 684000) (hQ : ∀ s' S, ps s s' → wgf s' 28 = wgf s 28 + 2 → pol s' (wgf s 28 + 1) S → fct S → S.length + G.length = F.length + 1 → (∀ x : Rat, pev F x = pev G x * pev S x) → wgf s' 24 ≤ wgf s 24 + 4000 → Q (wgf s 28 + 1) s') : W_share f g s Q := by
  have gF := hF.1
  have fG : fct G := fct_dv hF hG (qd_dvz hG.2.2.2.2 hd)
  have hFG := qd_len hd hG.2.2.1 hG.1 gF.2.2.1 gF.1
  obtain ⟨t, ht⟩ : ∃ t, t = F.length + 1 - G.length := ⟨_, rfl⟩
  have F9 := gF.2.1
  have G1 := hG.1
  have tm : ∀ t, t < 10 → ∀ g, g < 10 → t + g ≤ 10 → (9 + t * (2 * g + 5)) * (3 + t * 4 + 1) ≤ 3900 := by decide +kernel
  have c1 := tm t (by omega) G.length (by omega) (by omega)
  have c2 : (F.length + t * (2 * G.length + 5)) * (3 + t * 4 + 1) ≤ (9 + t * (2 * G.length + 5)) * (3 + t * 4 + 1) := Nat.mul_le_mul_right _ (by omega)
  refine share_ok (M := 3) (N := 3) (W := 3 + t * 4) hf hg (pab_lb (fct_pab hF)) (pab_lb (fct_pab fG)) hG.2.2.2.1 hG.1 hFG (by rw [← ht]; omega) hp h0 (by rw [← ht]; omega) (fun s' S a1 a2 a3 a4 a5 => ?_)
  obtain ⟨q1, q2, q3⟩ := sh_exact gF hG hd a4
  rw [← ht] at a5
  exact hQ s' S a1 a2 a3 (fct_dv hF q1 ⟨G, fun x => by rw [q3 x]; grind⟩) q2 q3 (by omega)
