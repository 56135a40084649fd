/-! PARTS OF HIGH DEGREE ARE SMALL -/
theorem lin_co {F P : List Int} {a b : Int} (e : ∀ x : Rat, pev F x = pev P x * (b + a * x)) : pgt F 0 = b * pgt P 0 ∧ ∀ k, pgt F (k + 1) = a * pgt P k + b * pgt P (k + 1) := by
  have q : ∀ k, pgt F k = pgt (padd (psm b P) (0 :: psm a P)) k := pev_inj (fun x => by
    rw [e x, padd_ev, psm_ev]
    show _ = b * pev P x + (((0 : Int) : Rat) + x * pev (psm a P) x)
    rw [psm_ev, rat_i0]
    grind)
  refine ⟨?_, fun k => ?_⟩
  · rw [q 0, padd_gt, psm_gt]
    show b * pgt P 0 + 0 = _
    omega
  · rw [q (k + 1), padd_gt, psm_gt]
    show b * pgt P (k + 1) + pgt (psm a P) k = _
    rw [psm_gt]; omega
theorem lin_bound {F P : List Int} {a b : Int} {n H : Nat} (ha : a ≠ 0) (e : ∀ x : Rat, pev F x = pev P x * (b + a * x)) (hP : pdb P n) (HF : pab F H) : pab P (n * H) := by
  obtain ⟨e0, es⟩ := lin_co e
  by_cases c : b.natAbs ≤ a.natAbs
  · have go : ∀ j k : Nat, n ≤ k + j → (pgt P k).natAbs ≤ j * H := by
      intro j
      induction j with
      | zero => intro k hk; rw [hP k (by omega)]; show (0 : Int).natAbs ≤ _; omega
      | succ j ih =>
        intro k hk
        have i1 := ih (k + 1) (by omega)
        have h1 := HF (k + 1)
        have h2 := es k
        have h3 : a * pgt P k = pgt F (k + 1) - b * pgt P (k + 1) := by omega
        have h4 : a.natAbs * (pgt P k).natAbs ≤ H + a.natAbs * (pgt P (k + 1)).natAbs := by
          rw [← Int.natAbs_mul, h3]
          have m : (b * pgt P (k + 1)).natAbs ≤ a.natAbs * (pgt P (k + 1)).natAbs := by
            rw [Int.natAbs_mul]; exact Nat.mul_le_mul_right _ c
          omega
        have h5 : H + a.natAbs * (pgt P (k + 1)).natAbs ≤ a.natAbs * (H + (pgt P (k + 1)).natAbs) := by
          rw [Nat.mul_add]
          have : 1 * H ≤ a.natAbs * H := Nat.mul_le_mul_right _ (by omega)
          omega
        have h6 := Nat.le_of_mul_le_mul_left (Nat.le_trans h4 h5) (by omega)
        have h7 : (j + 1) * H = j * H + H := Nat.succ_mul _ _
        omega
    intro k
    by_cases ck : k < n
    · refine Nat.le_trans (go (n - k) k (by omega)) (Nat.mul_le_mul_right _ (by omega))
    · rw [hP k (by omega)]; show (0 : Int).natAbs ≤ _; omega
  · have go : ∀ k : Nat, (pgt P k).natAbs ≤ (k + 1) * H := by
      intro k
      induction k with
      | zero =>
        have h1 := HF 0
        rw [e0, Int.natAbs_mul] at h1
        have : 1 * (pgt P 0).natAbs ≤ b.natAbs * (pgt P 0).natAbs := Nat.mul_le_mul_right _ (by omega)
        omega
      | succ k ih =>
        have h1 := HF (k + 1)
        have h2 := es k
        have h3 : b * pgt P (k + 1) = pgt F (k + 1) - a * pgt P k := by omega
        have h4 : b.natAbs * (pgt P (k + 1)).natAbs ≤ H + b.natAbs * (pgt P k).natAbs := by
          rw [← Int.natAbs_mul, h3]
          have m : (a * pgt P k).natAbs ≤ b.natAbs * (pgt P k).natAbs := by
            rw [Int.natAbs_mul]; exact Nat.mul_le_mul_right _ (by omega)
          omega
        have h5 : H + b.natAbs * (pgt P k).natAbs ≤ b.natAbs * (H + (pgt P k).natAbs) := by
          rw [Nat.mul_add]
          have : 1 * H ≤ b.natAbs * H := Nat.mul_le_mul_right _ (by omega)
          omega
        have h6 := Nat.le_of_mul_le_mul_left (Nat.le_trans h4 h5) (by omega)
        have h7 : (k + 1 + 1) * H = (k + 1) * H + H := Nat.succ_mul _ _
        omega
    intro k
    by_cases ck : k < n
    · exact Nat.le_trans (go k) (Nat.mul_le_mul_right _ (by omega))
    · rw [hP k (by omega)]; show (0 : Int).natAbs ≤ _; omega
theorem gd_one {P : List Int} (h : gd P) (hl : P.length = 1) (x : Rat) : pev P x = 1 := by
  obtain ⟨_, _, _, pos, pr⟩ := h
  rw [hl] at pos
  have q := pr (pgt P 0) (fun k => by
    cases k with
    | zero => exact Int.dvd_refl _
    | succ k => rw [pgt_hi P (k + 1) (by omega)]; exact Int.dvd_zero _)
  have q2 := Nat.dvd_one.1 (Int.natAbs_dvd_natAbs.2 q)
  have pos' : 0 < pgt P 0 := pos
  have e : pgt P 0 = 1 := by omega
  rw [pev_eq (R := [1]) (fun k => by
    cases k with
    | zero => exact e
    | succ k => rw [pgt_hi P (k + 1) (by omega)]; rfl) x, pev_c1]
theorem gd_two {P : List Int} (hl : P.length = 2) (x : Rat) : pev P x = (pgt P 0 : Rat) + pgt P 1 * x := by
  rw [pev_eq (R := [pgt P 0, pgt P 1]) (fun k => by
    cases k with
    | zero => rfl
    | succ k =>
      cases k with
      | zero => rfl
      | succ k => rw [pgt_hi P (k + 1 + 1) (by omega)]; rfl) x]
  show (pgt P 0 : Rat) + x * ((pgt P 1 : Rat) + x * 0) = _
  grind
theorem gcd_more {F G W D Y : List Int} {ga : Int} (gG : gd G) (gW : gd W) (hF : ∀ x : Rat, pev F x = pev G x * pev W x) (hD : ∀ x : Rat, pev (pdl F) x = ga * pev D x) (hg : qd G D) (hY : gcdof W G Y) (hl : 2 ≤ G.length) : 2 ≤ Y.length := by
  obtain ⟨y1, y2, y3, y4, y5, y6, c, u, v, c0, eb⟩ := hY
  refine Nat.le_of_not_lt fun hc => ?_
  have l1 : Y.length = 1 := by omega
  have Y0 : pgt Y 0 ≠ 0 := y2 0 l1
  have Yc : ∀ x : Rat, pev Y x = (pgt Y 0 : Rat) := fun x => by
    rw [pev_eq (R := [pgt Y 0]) (fun k => by
      cases k with
      | zero => rfl
      | succ k => exact pgt_hi Y (k + 1) (by omega)) x]
    show (pgt Y 0 : Rat) + x * 0 = _
    grind
  obtain ⟨c1, K1, c10, e1⟩ := hg
  have dF : ∀ x : Rat, pev (pdl F) x = pev (pdl G) x * pev W x + pev G x * pev (pdl W) x := fun x => by
    rw [← pdl_mul]
    exact pdl_co (pev_inj (fun x => by rw [pmul_ev]; exact hF x)) x
  obtain ⟨G', lG', eG'⟩ := trim (pdl G)
  obtain ⟨m, hm⟩ : ∃ m, G.length = m + 2 := ⟨G.length - 2, by omega⟩
  have tp : pgt (pdl G) m ≠ 0 := by
    rw [pdl_gt]
    exact Int.mul_ne_zero (gG.2.2.1 (m + 1) (by omega)) (by omega)
  have len1 : m + 1 ≤ G'.length := by
    refine Nat.le_of_not_lt fun q => tp ?_
    rw [← eG' m]
    exact pgt_hi G' m (by omega)
  have len2 : G'.length ≤ m + 1 := by
    refine Nat.le_of_not_lt fun q => ?_
    obtain ⟨j, hj⟩ : ∃ j, G'.length = j + 1 := ⟨G'.length - 1, by omega⟩
    refine lG' j hj ?_
    rw [eG' j, pdl_gt, pgt_hi G (j + 1) (by omega), Int.zero_mul]
  have q : qd G G' := by
    refine ⟨c1 * (c * pgt Y 0), padd (psm c1 (pmul v (pdl G))) (pmul u (padd (psm ga K1) (psm (-c1) (pdl W)))), Int.mul_ne_zero c10 (Int.mul_ne_zero c0 Y0), fun x => ?_⟩
    have w1 := e1 x
    have w2 := eb x
    have w3 := dF x
    have w4 := hD x
    rw [Yc x] at w2
    rw [pev_eq eG' x, padd_ev, psm_ev, pmul_ev, pmul_ev, padd_ev, psm_ev, psm_ev, Rat.intCast_mul, Rat.intCast_mul, Rat.intCast_neg]
    grind
  have := qd_len q gG.2.2.1 gG.1 lG' (by omega)
  omega
theorem own_small {F G W D Y O G1 : List Int} {ga : Int} (oF : org F) (gG : gd G) (gW : gd W) (gO : gd O) (gG1 : gd G1) (hF : ∀ x : Rat, pev F x = pev G x * pev W x) (lF : W.length + G.length = F.length + 1) (hD : ∀ x : Rat, pev (pdl F) x = ga * pev D x) (hg : qd G D) (hY : gcdof W G Y) (eO : ∀ x : Rat, pev W x = pev Y x * pev O x) (lO : O.length + Y.length = W.length + 1) (eG : ∀ x : Rat, pev G x = pev Y x * pev G1 x) (lG : G1.length + Y.length = G.length + 1) (h6 : 6 ≤ O.length) : pab O 1000000000000 := by
  have F9 := oF.1.2.1
  have G1' := gG.1
  have y1 := hY.1
  have gY : gd Y := gcdof_gd hY gW
  have g1 := gG1.1
  have all : ∀ x : Rat, pev F x = pev O x * pev Y x * pev Y x * pev G1 x := fun x => by
    rw [hF x, eO x, eG x]; grind
  have big : ∀ H, H ≤ 512000000000 → pab O H → pab O 1000000000000 := fun H hH h k => by
    have := h k
    omega
  by_cases c : G.length = 1
  · have gy : Y.length = 1 := by omega
    have gg : G1.length = 1 := by omega
    refine big 1000000000 (by decide) (fun k => ?_)
    have e : pgt O k = pgt F k := pev_inj (fun x => by rw [all x, gd_one gY gy, gd_one gG1 gg]; grind) k
    rw [e]; exact oF.2 k
  · have y2 := gcd_more gG gW hF hD hg hY (by omega)
    have hy : Y.length = 2 := by
      have := qd_len hY.2.2.2.2.2.1 hY.2.1 hY.1 gG.2.2.1 gG.1
      omega
    have y10 : pgt Y 1 ≠ 0 := hY.2.1 1 (by omega)
    have d2 : pdb (pmul O Y) 8 := pdb_mono (pdb_mul (pdb_len O) (pdb_len Y)) (by omega)
    have d3 : pdb O 8 := pdb_mono (pdb_len O) (by omega)
    have b1 : pab (pmul (pmul O Y) Y) (8 * 1000000000) := by
      by_cases c1 : G1.length = 1
      · intro k
        have e : pgt (pmul (pmul O Y) Y) k = pgt F k := pev_inj (fun x => by rw [pmul_ev, pmul_ev, all x, gd_one gG1 c1]; grind) k
        rw [e]
        have := oF.2 k
        omega
      · have l2 : G1.length = 2 := by omega
        have d1 : pdb (pmul (pmul O Y) Y) 8 := pdb_mono (pdb_mul (pdb_mul (pdb_len O) (pdb_len Y)) (pdb_len Y)) (by omega)
        refine lin_bound (a := pgt G1 1) (b := pgt G1 0) (gG1.2.2.1 1 (by omega)) (fun x => ?_) d1 oF.2
        rw [pmul_ev, pmul_ev, ← gd_two l2 x, all x]
    have b2 : pab (pmul O Y) (8 * (8 * 1000000000)) := lin_bound (a := pgt Y 1) (b := pgt Y 0) y10 (fun x => by
      rw [pmul_ev, ← gd_two hy x]) d2 b1
    have b3 : pab O (8 * (8 * (8 * 1000000000))) := lin_bound (a := pgt Y 1) (b := pgt Y 0) y10 (fun x => by
      rw [pmul_ev, ← gd_two hy x]) d3 b2
    exact big _ (by decide) b3
/-- what part1 finds -/
def ow (P : List Int) : Prop := fct P ∧ sqf P ∧ 2 ≤ P.length ∧ (6 ≤ P.length → pab P 1000000000000)
theorem ofs_le {P : List Int} (h : plb P 3) : ∀ k : Nat, ofs P k ≤ 1 + 4 * k
  | 0 => by show (1 : Int) ≤ _; omega
  | k + 1 => by
    have a := ofs_le h k
    have b := h k
    show ofs P k + lim (pgt P k) + 1 ≤ _
    omega
