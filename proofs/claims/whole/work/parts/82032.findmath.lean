/-! PUTTING find TOGETHER -/
theorem im_top {p : Int} (pp : ∀ a b : Int, p ∣ a * b → p ∣ a ∨ p ∣ b) {F H : List Int} {d : Int} {a img : Nat → Int} (h : imS p F H d a img) : p ∣ img d.toNat - 1 := by
  obtain ⟨⟨d1, d8⟩, _, na, _, _, _, _, hi⟩ := h
  obtain ⟨x, hx⟩ := hi d.toNat (by omega)
  rcases pp (img d.toNat - 1) (a d.toNat) ⟨x, by grind⟩ with w | w
  · exact w
  · exact absurd w na
theorem rwp_top {d : Int} {a : Nat → Int} (h : ∀ k : Nat, k < 9 → d < (k : Int) → a k = 0) (d0 : 0 ≤ d) : pdb (pmk 9 a) (d.toNat + 1) := fun k hk => by
  rw [pmk_gt]
  by_cases q : k < 9
  · rw [if_pos q]; exact h k q (by omega)
  · rw [if_neg q]
/-- a lucky prime: the image times the divisor's lead is the divisor -/
theorem im_lucky {p : Int} (pp : ∀ a b : Int, p ∣ a * b → p ∣ a ∨ p ∣ b) {F H G F1 H1 u v : List Int} {g : Nat} {c d : Int} {a img : Nat → Int} (h : imS p F H d a img) (hc : ¬ p ∣ c) (eF : ∀ x : Rat, pev F x = pev G x * pev F1 x) (eH : ∀ x : Rat, pev H x = pev G x * pev H1 x) (cc : ∀ x : Rat, (c : Rat) = pev u x * pev F1 x + pev v x * pev H1 x) (hG : pdb G (g + 1)) (lG : ¬ p ∣ pgt G g) : (g : Int) = d ∧ ∀ k : Nat, k < 9 → p ∣ pgt G g * img k - pgt G k := by
  obtain ⟨⟨d1, d8⟩, hz, na, hI, gF, gH, _, hi⟩ := h
  have e9 : ∀ k : Nat, k < 9 → pgt (pmk 9 a) k = a k := fun k k9 => by rw [pmk_gt, if_pos k9]
  obtain ⟨gd, key⟩ := lucky pp hc eF eH cc hG lG hI gF gH (d := d.toNat) (by rw [e9 _ (by omega)]; exact na) (rwp_top hz (by omega))
  refine ⟨by omega, fun k k9 => ?_⟩
  obtain ⟨x, hx⟩ := hi k k9
  obtain ⟨y, hy⟩ := key k
  rw [e9 k k9, e9 _ (by omega)] at hy
  rcases pp (a d.toNat) (pgt G g * img k - pgt G k) ⟨pgt G g * x + y, by grind⟩ with w | w
  · exact absurd w na
  · exact w
theorem two_dv {p q x : Int} (pp : ∀ a b : Int, q ∣ a * b → q ∣ a ∨ q ∣ b) (npq : ¬ q ∣ p) (h1 : p ∣ x) (h2 : q ∣ x) : p * q ∣ x := by
  obtain ⟨y, hy⟩ := h1
  rw [hy] at h2
  rcases pp _ _ h2 with w | w
  · exact absurd w npq
  · obtain ⟨z, hz⟩ := w
    exact ⟨z, by rw [hy, hz]; grind⟩
theorem small_0 {m x : Int} (hm : 0 < m) (h : m ∣ x) (h1 : -m < x) (h2 : x < m) : x = 0 := by
  obtain ⟨k, hk⟩ := h
  have a : k < 1 := Int.not_le.1 fun q => by
    have := Int.mul_le_mul_of_nonneg_left q (Int.le_of_lt hm)
    omega
  have b : -1 < k := Int.not_le.1 fun q => by
    have := Int.mul_le_mul_of_nonneg_left q (Int.le_of_lt hm)
    omega
  have : k = 0 := by omega
  rw [hk, this, Int.mul_zero]
/-- both primes lucky: rebuild finds the divisor, times sh -/
theorem rb_lucky {p q : Int} (pp : ∀ a b : Int, p ∣ a * b → p ∣ a ∨ p ∣ b) (pq : ∀ a b : Int, q ∣ a * b → q ∣ a ∨ q ∣ b) (npq : ¬ q ∣ p) (p0 : 0 < p) (q0 : 0 < q) {F H G F1 H1 u v : List Int} {g : Nat} {c d share sh : Int} {a b E M R : Nat → Int} (h : imS p F H d a E) (h' : imS q F H d b M) (hp : ¬ p ∣ c) (hq : ¬ q ∣ c) (eF : ∀ x : Rat, pev F x = pev G x * pev F1 x) (eH : ∀ x : Rat, pev H x = pev G x * pev H1 x) (cc : ∀ x : Rat, (c : Rat) = pev u x * pev F1 x + pev v x * pev H1 x) (hG : pdb G (g + 1)) (lp : ¬ p ∣ pgt G g) (lq : ¬ q ∣ pgt G g) (hs : share = pgt G g * sh) (hR : rbS p q share d E M R) (hb : ∀ k, 2 * ((sh * pgt G k).natAbs : Int) < p * q) : (g : Int) = d ∧ ∀ k : Nat, pgt (pmk 9 R) k = sh * pgt G k := by
  obtain ⟨gd, k1⟩ := im_lucky pp h hp eF eH cc hG lp
  obtain ⟨_, k2⟩ := im_lucky pq h' hq eF eH cc hG lq
  have d8 := h.1.2
  refine ⟨gd, fun k => ?_⟩
  rw [pmk_gt]
  by_cases k9 : k < 9
  · rw [if_pos k9]
    by_cases kd : (k : Int) ≤ d
    · obtain ⟨r1, r2, r3, r4⟩ := hR.1 k k9 kd
      have d1 : p ∣ R k - sh * pgt G k := by
        obtain ⟨x, hx⟩ := r1
        obtain ⟨y, hy⟩ := k1 k k9
        exact ⟨x + sh * y, by rw [hs] at hx; grind⟩
      have d2 : q ∣ R k - sh * pgt G k := by
        obtain ⟨x, hx⟩ := r2
        obtain ⟨y, hy⟩ := k2 k k9
        exact ⟨x + sh * y, by rw [hs] at hx; grind⟩
      have b := hb k
      have := small_0 (Int.mul_pos p0 q0) (two_dv pq npq d1 d2) (by omega) (by omega)
      omega
    · rw [hR.2 k k9 (by omega), hG k (by omega), Int.mul_zero]
  · rw [if_neg k9, hG k (by omega), Int.mul_zero]
/-- two primitive ones with the same multiples -/
theorem prm_pm {G G' : List Int} {g0 sh : Int} (hG : prm1 G) (hG' : prm1 G') (g00 : g0 ≠ 0) (s0 : sh ≠ 0) (e : ∀ k, sh * pgt G k = g0 * pgt G' k) : (∀ k, pgt G' k = pgt G k) ∨ ∀ k, pgt G' k = - pgt G k := by
  have d1 : g0 ∣ sh := prm1_dvd hG g00 (fun k => ⟨pgt G' k, e k⟩)
  have d2 : sh ∣ g0 := prm1_dvd hG' s0 (fun k => ⟨pgt G k, (e k).symm⟩)
  have := Int.natAbs_dvd_natAbs.2 d1
  have := Int.natAbs_dvd_natAbs.2 d2
  have eq : g0.natAbs = sh.natAbs := Nat.dvd_antisymm (Int.natAbs_dvd_natAbs.2 d1) (Int.natAbs_dvd_natAbs.2 d2)
  rcases Int.natAbs_eq_natAbs_iff.1 eq with w | w
  · left; intro k
    have := e k
    rw [w] at this
    exact (Int.eq_of_mul_eq_mul_left s0 this).symm
  · right; intro k
    have := e k
    rw [w] at this
    have e2 : sh * pgt G k = sh * (- pgt G' k) := by rw [this]; grind
    have := Int.eq_of_mul_eq_mul_left s0 e2
    omega
/-- a common divisor of the greatest degree is the greatest one -/
theorem max_gcd {F H G F1 H1 D K1 K2 : List Int} {g d : Nat} (eF : ∀ x : Rat, pev F x = pev G x * pev F1 x) (eH : ∀ x : Rat, pev H x = pev G x * pev H1 x) (hc : cop F1 H1) (nG : nzp G) (hG : pdb G (g + 1)) (hD : pdb D (d + 1)) (lD : pgt D d ≠ 0) (gd : g ≤ d) (e1 : ∀ x : Rat, pev F x = pev D x * pev K1 x) (e2 : ∀ x : Rat, pev H x = pev D x * pev K2 x) : cop K1 K2 := by
  obtain ⟨c, u, v, c0, cc⟩ := hc
  have key : ∀ x : Rat, pev (psm c G) x = pev D x * pev (padd (pmul u K1) (pmul v K2)) x := fun x => by
    rw [psm_ev, padd_ev, pmul_ev, pmul_ev]
    have a := cc x
    have b := eF x
    rw [e1 x] at b
    have b2 := eH x
    rw [e2 x] at b2
    rw [a]
    grind
  obtain ⟨X, hX⟩ : ∃ X, X = padd (pmul u K1) (pmul v K2) := ⟨_, rfl⟩
  rw [← hX] at key
  obtain ⟨Y, y1, y2⟩ := trim X
  have nY : 1 ≤ Y.length := by
    refine Nat.not_lt.1 fun z => ?_
    obtain ⟨k, hk⟩ := nG
    have zX : ∀ x : Rat, pev (psm c G) x = 0 := fun x => by
      rw [key x, ← pev_eq y2 x, ev_0 (fun k => pgt_hi Y k (by omega))]; grind
    have := pev_zero zX k
    rw [psm_gt] at this
    rcases Int.mul_eq_zero.1 this with w | w
    · exact c0 w
    · exact hk w
  have dY : pdb Y (Y.length - 1 + 1) := pdb_mono (pdb_len Y) (by omega)
  have tY : pgt Y (Y.length - 1) ≠ 0 := y1 _ (by omega)
  have co := pev_inj (P := psm c G) (Q := pmul D Y) (fun x => by rw [key x, pmul_ev, pev_eq y2 x]) (d + (Y.length - 1))
  rw [pdb_top hD dY, psm_gt] at co
  have nz : pgt D d * pgt Y (Y.length - 1) ≠ 0 := Int.mul_ne_zero lD tY
  have len : Y.length = 1 := by
    refine Classical.byContradiction fun q => nz ?_
    rw [← co, hG (d + (Y.length - 1)) (by omega), Int.mul_zero]
  have cX : ∀ x : Rat, pev X x = (pgt Y 0 : Rat) := fun x => by
    rw [← pev_eq y2 x]
    exact const_ev (fun k => pgt_hi Y (k + 1) (by omega)) x
  refine ⟨pgt Y 0, u, v, by rw [len] at tY; exact tY, fun x => ?_⟩
  rw [← cX x, hX, padd_ev, pmul_ev, pmul_ev]
theorem dvs_pm {F G G' F1 : List Int} (e : ∀ x : Rat, pev F x = pev G x * pev F1 x) (h : (∀ k, pgt G' k = pgt G k) ∨ ∀ k, pgt G' k = - pgt G k) (hb : ∀ i j, (pgt G i * pgt F1 j).natAbs ≤ 288230376151711744) (hb1 : ∀ j, (pgt F1 j).natAbs ≤ 288230376151711744) : dvs F G' := by
  have wd : ∀ j, ((pgt F1 j).natAbs : Int) * widn G' 9 ≤ 288230376151711744 := fun j => by
    by_cases z : pgt F1 j = 0
    · rw [z]; show ((0 : Nat) : Int) * _ ≤ _; omega
    · have f0 : 0 < (pgt F1 j).natAbs := by omega
      have wl := widn_le (G := G') (B := 288230376151711744 / ((pgt F1 j).natAbs : Int)) ((Int.le_ediv_iff_mul_le (by omega)).2 (by have := hb1 j; omega)) (fun k => ?_) 9
      · have := (Int.le_ediv_iff_mul_le (show 0 < ((pgt F1 j).natAbs : Int) by omega)).1 wl
        rw [Int.mul_comm]; exact this
      · refine (Int.le_ediv_iff_mul_le (by omega)).2 ?_
        have b := hb k j
        rw [Int.natAbs_mul] at b
        have e9 : (pgt G' k).natAbs = (pgt G k).natAbs := by
          rcases h with h | h
          · rw [h k]
          · rw [h k, Int.natAbs_neg]
        rw [e9, ← Int.natCast_mul]
        omega
  rcases h with h | h
  · exact ⟨F1, fun x => by rw [e x, pev_eq h x], wd⟩
  · refine ⟨psm (-1) F1, fun x => ?_, fun j => ?_⟩
    · have : pev G' x = - pev G x := by
        rw [← psm_m1]; exact pev_eq (fun k => by rw [h k, psm_gt]; omega) x
      rw [e x, this, psm_m1]; grind
    · rw [psm_gt, show -1 * pgt F1 j = - pgt F1 j by omega, Int.natAbs_neg]; exact wd j
