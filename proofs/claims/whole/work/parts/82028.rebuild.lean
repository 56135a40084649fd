theorem inverse_v2 {v p : Int} {s : im_S} {Q : Int → im_S → Prop} (hp : prz p) (hv0 : 0 ≤ v) (hv1 : v ≤ 2147483647) (hQ : ∀ z, 0 ≤ z → z < p → (p ∣ z - (v % p) ^ (p - 2).toNat) → Q z s) : C_inverse2 v p s Q := by
  have p1 := hp.1
  have p2 := hp.2
  have m0 := Int.emod_nonneg v (show p ≠ 0 by omega)
  have m1 := Int.emod_lt_of_pos v (show 0 < p by omega)
  have e1 : remJ v p = v % p := by
    rw [remJ_eq ⟨by omega, by omega⟩ ⟨by omega, by omega⟩ (by omega), Int.tmod_eq_emod_of_nonneg hv0]
  have e2 : remJ (v % p) p = v % p := by
    rw [remJ_eq ⟨by omega, by omega⟩ ⟨by omega, by omega⟩ (by omega), Int.tmod_eq_emod_of_nonneg m0, Int.emod_emod]
  have h := inverse_v (v := v % p) (s := s) (Q := Q) hp m0 m1 hQ
  unfold C_inverse2 at h ⊢
  rw [e2] at h
  rw [e1]
  exact h
/-- what rebuild puts together -/
def rbS (p q share d : Int) (E M R : Nat → Int) : Prop := (∀ k : Nat, k < 9 → (k : Int) ≤ d → p ∣ R k - share * E k ∧ q ∣ R k - share * M k ∧ -(p * q) ≤ 2 * R k ∧ 2 * R k ≤ p * q) ∧ ∀ k : Nat, k < 9 → d < (k : Int) → R k = 0
theorem rebuild_v {share d p q : Int} {s : im_S} {Q : im_S → Prop} (hd : dI s) (hp : prz p) (hq : prz q) (inv : ∀ v : Int, 0 < v → v < q → q ∣ v ^ (q - 2).toNat * v - 1) (npq : p % q ≠ 0) (s0 : 0 ≤ share) (s1' : share ≤ 4611686018427387904) (d0 : 0 ≤ d) (d8 : d ≤ 8) (hE : inr9 p (s.2 (crf s 247 4))) (hM : inr9 q (s.2 (crf s 247 3))) (hQ : ∀ s' R G g, rbS p q share d (s.2 (crf s 247 4)) (s.2 (crf s 247 3)) R → g ≠ 0 → (∀ k, pgt (pmk 9 R) k = g * pgt G k) → ((∃ k, pgt (pmk 9 R) k ≠ 0) → prm1 G ∧ lps G) → ply s' 253 G → w63 G → gsf s s' → Q s') : C_rebuild2 share d p q s Q := by
  obtain ⟨p1, p2⟩ := id hp
  obtain ⟨q1, q2⟩ := id hq
  have i3 := dI_3 hd
  have i4 := dI_4 hd
  refine inverse_v2 hq (by omega) p2 (fun link l0 l1 dl => ?_)
  have ml0 := Int.emod_nonneg p (show q ≠ 0 by omega)
  have ml1 := Int.emod_lt_of_pos p (show 0 < q by omega)
  have lk : q ∣ link * p - 1 := by
    obtain ⟨x1, h1⟩ := dl
    obtain ⟨x2, h2⟩ := inv (p % q) (by omega) ml1
    have h3 := Int.emod_add_mul_ediv p q
    exact ⟨x1 * (p % q) + x2 + link * (p / q), by grind⟩
  have pq0 : 0 ≤ p * q := Int.mul_nonneg (by omega) (by omega)
  have pq1 : p * q ≤ 2147483647 * 2147483647 := Int.le_trans (Int.mul_le_mul_of_nonneg_right p2 (by omega)) (Int.mul_le_mul_of_nonneg_left q2 (by decide))
  rw [w64_id (x := p * q) (by omega) (by omega)]
  have dv : divJ (p * q) 2 = p * q / 2 := by
    rw [divJ_eq ⟨by omega, by omega⟩ ⟨by decide, by decide⟩ (by omega), Int.tdiv_eq_ediv_of_nonneg pq0]
  have rem : ∀ (x m : Int), 0 ≤ x → x ≤ 4611686018427387904 → 2000000000 ≤ m → m ≤ 2147483647 → remJ (w64 x) m = x % m := fun x m x0 x1 m0 m1 => by
    rw [w64_id (by omega) (by omega), remJ_eq ⟨by omega, by omega⟩ ⟨by omega, by omega⟩ (by omega), Int.tmod_eq_emod_of_nonneg x0]
  have mulb : ∀ a b : Int, 0 ≤ a → a ≤ 2147483647 → 0 ≤ b → b ≤ 2147483647 → 0 ≤ a * b ∧ a * b ≤ 4611686014132420609 := fun a b a0 a1 b0 b1 => by
    have m1 := Int.mul_nonneg a0 b0
    have m2 : a * b ≤ 2147483647 * 2147483647 := Int.le_trans (Int.mul_le_mul_of_nonneg_right a1 b0) (Int.mul_le_mul_of_nonneg_left b1 (by decide))
    omega
  have rs : ∀ m : Int, 2000000000 ≤ m → m ≤ 2147483647 → remJ share m = share % m := fun m m0 m1 => by
    rw [remJ_eq ⟨by omega, by omega⟩ ⟨by omega, by omega⟩ (by omega), Int.tmod_eq_emod_of_nonneg s0]
  refine setConstant_b (fun sA hA fA => ?_)
  have c3 : ∀ s', gsf s s' → crf s' 247 3 = crf s 247 3 ∧ crf s' 247 4 = crf s 247 4 ∧ s'.2 (crf s 247 3) = s.2 (crf s 247 3) ∧ s'.2 (crf s 247 4) = s.2 (crf s 247 4) := fun s' g => ⟨by show (s'.1 247 3).toNat = (s.1 247 3).toNat; rw [g.1 _ _ (by omega)], by show (s'.1 247 4).toNat = (s.1 247 4).toNat; rw [g.1 _ _ (by omega)], g.2 _ (by omega), g.2 _ (by omega)⟩
  obtain ⟨E, eE⟩ : ∃ E, E = s.2 (crf s 247 4) := ⟨_, rfl⟩
  obtain ⟨M, eM⟩ : ∃ M, M = s.2 (crf s 247 3) := ⟨_, rfl⟩
  rw [← eE] at hE hQ
  rw [← eM] at hM hQ
  refine ⟨fun a => ∃ i : Nat, a.1 = (i : Int) ∧ (i : Int) ≤ d + 1 ∧ gsf s a.2 ∧ (∀ k : Nat, k < i → p ∣ a.2.2 254 k - share * E k ∧ q ∣ a.2.2 254 k - share * M k ∧ -(p * q) ≤ 2 * a.2.2 254 k ∧ 2 * a.2.2 254 k ≤ p * q) ∧ ∀ k : Nat, i ≤ k → k < 9 → a.2.2 254 k = 0, ⟨0, rfl, by omega, fA, fun k hk => by omega, fun k _ k9 => ?_⟩, ?_⟩
  · dsimp only
    have := hA.1 k k9
    rw [this]
    cases k with
    | zero => rfl
    | succ k => cases k <;> rfl
  rintro ⟨x, s2⟩ ⟨i, ei, id1, f2, r2, z2⟩
  dsimp only at ei f2 r2 z2 ⊢
  subst ei
  obtain ⟨w3, w4, w5, w6⟩ := c3 s2 f2
  refine ⟨fun c => ?_, fun c _ _ => ?_⟩
  · have bnd : ∀ k : Nat, k < 9 → -(p * q) ≤ 2 * s2.2 254 k ∧ 2 * s2.2 254 k ≤ p * q := fun k k9 => by
      by_cases h : k < i
      · exact (r2 k h).2.2
      · rw [z2 k (by omega) k9]; omega
    have w0 : w63 (pmk 9 (s2.2 254)) := fun k => by
      rw [pmk_gt]
      by_cases c : k < 9
      · rw [if_pos c]; have := bnd k c; omega
      · rw [if_neg c]; exact ⟨by decide, by decide⟩
    refine measure_b (F := pmk 9 (s2.2 254)) (fun i hi => by rw [pmk_gt, if_pos hi]) (by have := pdb_len (pmk 9 (s2.2 254)); rw [pmk_len] at this; exact this) (fun s4 h4 f4 e4 => ?_)
    refine makePrimitive_v h4 w0 (fun s5 G g h5 g0 eg pr f5 => hQ s5 (s2.2 254) G g ⟨fun k k9 kd => r2 k (by omega), fun k k9 kd => z2 k (by omega) k9⟩ g0 eg pr h5 (fun k => ?_) (gfr_trans f2 (gfr_trans f4 f5)))
    have a := w0 k
    have b := eg k
    rw [b] at a
    have : (pgt G k).natAbs ≤ (g * pgt G k).natAbs := by
      rw [Int.natAbs_mul]
      exact Nat.le_mul_of_pos_left _ (by omega)
    omega
  · have i9 : i < 9 := by omega
    rw [w3, w4]
    have eEi : cga s2 (crf s 247 4) (i : Int) = E i := by show s2.2 _ i = _; rw [w6, eE]
    have eMi : cga s2 (crf s 247 3) (i : Int) = M i := by show s2.2 _ i = _; rw [w5, eM]
    rw [eEi, eMi, rs p p1 p2, rs q q1 q2]
    have hEi := hE i i9
    have hMi := hM i i9
    have sp0 := Int.emod_nonneg share (show p ≠ 0 by omega)
    have sp1 := Int.emod_lt_of_pos share (show 0 < p by omega)
    have sq0 := Int.emod_nonneg share (show q ≠ 0 by omega)
    have sq1 := Int.emod_lt_of_pos share (show 0 < q by omega)
    have b1 := mulb (share % p) (E i) sp0 (by omega) hEi.1 (by omega)
    have b2 := mulb (share % q) (M i) sq0 (by omega) hMi.1 (by omega)
    rw [rem _ p b1.1 (by omega) p1 p2, rem _ q b2.1 (by omega) q1 q2]
    obtain ⟨u, hu⟩ : ∃ u, u = share % p * E i % p := ⟨_, rfl⟩
    obtain ⟨w, hw⟩ : ∃ w, w = share % q * M i % q := ⟨_, rfl⟩
    rw [← hu, ← hw]
    have u0 : 0 ≤ u := by rw [hu]; exact Int.emod_nonneg _ (by omega)
    have u1 : u < p := by rw [hu]; exact Int.emod_lt_of_pos _ (by omega)
    have v0 : 0 ≤ w := by rw [hw]; exact Int.emod_nonneg _ (by omega)
    have v1 : w < q := by rw [hw]; exact Int.emod_lt_of_pos _ (by omega)
    rw [w64_id (x := w - u) (by omega) (by omega)]
    refine floorMod_v ⟨by omega, by omega⟩ (by omega) (by omega) ⟨by omega, by omega⟩ ?_
    obtain ⟨z, hz⟩ : ∃ z, z = (w - u) % q := ⟨_, rfl⟩
    rw [← hz]
    have z0 : 0 ≤ z := by rw [hz]; exact Int.emod_nonneg _ (by omega)
    have z1 : z < q := by rw [hz]; exact Int.emod_lt_of_pos _ (by omega)
    have b3 := mulb z link z0 (by omega) l0 (by omega)
    intro v9 ev _ s3 e3
    rw [rem _ q b3.1 (by omega) q1 q2, dv] at ev
    obtain ⟨y, hy⟩ : ∃ y, y = z * link % q := ⟨_, rfl⟩
    rw [← hy] at ev
    have y0 : 0 ≤ y := by rw [hy]; exact Int.emod_nonneg _ (by omega)
    have y1 : y < q := by rw [hy]; exact Int.emod_lt_of_pos _ (by omega)
    have py0 := Int.mul_nonneg (show 0 ≤ p by omega) y0
    have py1 : p * y ≤ p * (q - 1) := Int.mul_le_mul_of_nonneg_left (by omega) (by omega)
    have pqe : p * (q - 1) = p * q - p := by grind
    rw [w64_id (x := p * y) (by omega) (by omega), w64_id (x := u + p * y) (by omega) (by omega), w64_id (x := u + p * y - p * q) (by omega) (by omega)] at ev
    have cp : p ∣ (u + p * y) - share * E i := by
      have h1 := Int.emod_add_mul_ediv share p
      have h2 := Int.emod_add_mul_ediv (share % p * E i) p
      rw [← hu] at h2
      exact ⟨y - (share % p * E i) / p - (share / p) * E i, by grind⟩
    have cq : q ∣ (u + p * y) - share * M i := by
      have h1 := Int.emod_add_mul_ediv share q
      have h2 := Int.emod_add_mul_ediv (share % q * M i) q
      have h3 := Int.emod_add_mul_ediv (w - u) q
      have h4 := Int.emod_add_mul_ediv (z * link) q
      rw [← hw] at h2
      rw [← hz] at h3
      rw [← hy] at h4
      obtain ⟨t, ht⟩ := lk
      refine ⟨z * t - p * (z * link / q) - ((w - u) / q) - (share % q * M i) / q - (share / q) * M i, ?_⟩
      have g1 : y = z * link - q * (z * link / q) := by omega
      have g2 : z = w - u - q * ((w - u) / q) := by omega
      have g3 : w = share % q * M i - q * (share % q * M i / q) := by omega
      have g4 : share % q = share - q * (share / q) := by omega
      have g5 : link * p = 1 + q * t := by omega
      have a1 : p * y = z * (link * p) - q * (p * (z * link / q)) := by rw [g1]; grind
      rw [g5] at a1
      have a2 : share % q * M i = share * M i - q * ((share / q) * M i) := by rw [g4]; grind
      generalize share % q * M i / q = k1 at *
      generalize (w - u) / q = k2 at *
      generalize z * link / q = k3 at *
      generalize share / q = k4 at *
      rw [a1]
      grind
    refine ⟨i + 1, w32s (by omega), by omega, by subst e3; exact gfr_pa f2 rfl, fun k hk => ?_, fun k hk k9 => ?_⟩
    · show p ∣ s3.2 254 k - share * E k ∧ q ∣ s3.2 254 k - share * M k ∧ -(p * q) ≤ 2 * s3.2 254 k ∧ 2 * s3.2 254 k ≤ p * q
      rw [e3, show (253 + 1 : Nat) = 254 from rfl, cpa_at9, show ((i : Nat) : Int).toNat = i by omega]
      by_cases h : k = i
      · rw [if_pos h, h, ev]
        by_cases le : u + p * y ≤ p * q / 2
        · rw [if_pos le]
          exact ⟨cp, cq, by omega, by omega⟩
        · rw [if_neg le]
          obtain ⟨x1, hx1⟩ := cp
          obtain ⟨x2, hx2⟩ := cq
          exact ⟨⟨x1 - q, by grind⟩, ⟨x2 - p, by grind⟩, by omega, by omega⟩
      · rw [if_neg h]
        exact r2 k (by omega)
    · show s3.2 254 k = 0
      rw [e3, show (253 + 1 : Nat) = 254 from rfl, cpa_at9, show ((i : Nat) : Int).toNat = i by omega, if_neg (by omega)]
      exact z2 k (by omega) k9
