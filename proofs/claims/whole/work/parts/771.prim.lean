/-! gcd AND makePrimitive -/
theorem abs_J2 {x : Int} {s : im_S} {Q : Int → im_S → Prop} (h1 : -9223372036854775807 ≤ x) (h2 : x ≤ 9223372036854775807) (h : Q (x.natAbs : Int) s) : C_J9_abs_067f4 x s Q := abs_J ⟨by omega, h2⟩ (by omega) h
theorem gcd_b {x y : Int} {s : im_S} {Q : Int → im_S → Prop} (x1 : -9223372036854775807 ≤ x) (x2 : x ≤ 9223372036854775807) (y1 : -9223372036854775807 ≤ y) (y2 : y ≤ 9223372036854775807) (hQ : ∀ z, 0 ≤ z → z ≤ 9223372036854775807 → z ∣ x → z ∣ y → (z = 0 → x = 0 ∧ y = 0) → Q z s) : C_gcd6 x y s Q := by
  refine abs_J2 x1 x2 (abs_J2 y1 y2 ?_)
  refine ⟨fun q => q.2.2.2 = s ∧ 0 ≤ q.1 ∧ q.1 ≤ 9223372036854775807 ∧ 0 ≤ q.2.1 ∧ q.2.1 ≤ 9223372036854775807 ∧ (∀ d : Int, d ∣ q.1 → d ∣ q.2.1 → d ∣ x ∧ d ∣ y) ∧ (q.1 = 0 → q.2.1 = 0 → x = 0 ∧ y = 0) ∧ ∃ t : Nat, q.2.2.1 = (t : Int) ∧ t ≤ 200 ∧ (t = 0 ∨ (q.2.1 ≤ q.1 ∧ q.1 * q.2.1 * 2 ^ (t - 1) ≤ 2 ^ 130)), ⟨rfl, by dsimp only; omega, by dsimp only; omega, by dsimp only; omega, by dsimp only; omega, fun d h1 h2 => ⟨Int.dvd_natAbs.1 h1, Int.dvd_natAbs.1 h2⟩, fun h1 h2 => by dsimp only at h1 h2; omega, 0, rfl, by omega, Or.inl rfl⟩, ?_⟩
  rintro ⟨u, v, t9, s1⟩ ⟨e, u0, u1, v0, v1, hd, hz, t, et, t2, ht⟩
  dsimp only at e u0 u1 v0 v1 hd hz et ht ⊢
  subst e
  subst et
  have done : v = 0 → Q u s1 := fun h => by
    subst h
    have := hd u (Int.dvd_refl _) (Int.dvd_zero _)
    exact hQ u u0 u1 this.1 this.2 (fun h => hz h rfl)
  refine ⟨fun c => done ?_, fun c => ⟨fun h => done h, fun h => ?_⟩⟩
  · have t3 : t = 200 := by omega
    subst t3
    rcases ht with q | ⟨q1, q2⟩
    · omega
    · refine Classical.byContradiction fun c2 => ?_
      have : 1 ≤ u * v := by
        have := Int.mul_pos (show 0 < u by omega) (show 0 < v by omega)
        omega
      have p : (1 : Int) * 2 ^ (200 - 1) ≤ u * v * 2 ^ (200 - 1) := Int.mul_le_mul_of_nonneg_right this (by decide)
      have : (2 : Int) ^ 130 < 1 * 2 ^ (200 - 1) := by decide
      omega
  · have er : remJ u v = u % v := by
      rw [remJ_eq ⟨by omega, u1⟩ ⟨by omega, v1⟩ (by omega), Int.tmod_eq_emod_of_nonneg u0]
    have m0 := Int.emod_nonneg u h
    have m1 := Int.emod_lt_of_pos u (show 0 < v by omega)
    rw [er]
    refine ⟨rfl, v0, v1, m0, by dsimp only; omega, fun d h1 h2 => ?_, fun h1 h2 => ?_, t + 1, w32s (by omega), by omega, Or.inr ⟨by dsimp only; omega, ?_⟩⟩
    · dsimp only at h1 h2
      refine hd d ?_ h1
      have : u = v * (u / v) + u % v := (Int.mul_ediv_add_emod u v).symm
      rw [this]
      exact Int.dvd_add (Int.dvd_trans h1 (Int.dvd_mul_right _ _)) h2
    · exact absurd h1 h
    · show v * (u % v) * 2 ^ (t + 1 - 1) ≤ 2 ^ 130
      rw [Nat.add_sub_cancel]
      rcases ht with q | ⟨q1, q2⟩
      · subst q
        have a1 : v * (u % v) ≤ v * v := Int.mul_le_mul_of_nonneg_left (by omega) v0
        have a2 : v * v ≤ 9223372036854775807 * v := Int.mul_le_mul_of_nonneg_right v1 v0
        have a3 : (9223372036854775807 : Int) * 9223372036854775807 ≤ 2 ^ 130 := by decide
        show v * (u % v) * 1 ≤ _
        omega
      · have half : 2 * (u % v) ≤ u := by
          have : u = v * (u / v) + u % v := (Int.mul_ediv_add_emod u v).symm
          have q0 : 1 ≤ u / v := (Int.le_ediv_iff_mul_le (by omega)).2 (by omega)
          have : v * 1 ≤ v * (u / v) := Int.mul_le_mul_of_nonneg_left q0 v0
          omega
        have a1 : v * (2 * (u % v)) ≤ v * u := Int.mul_le_mul_of_nonneg_left half v0
        by_cases t0 : t = 0
        · subst t0
          have q2' : u * v * 1 ≤ 2 ^ 130 := q2
          show v * (u % v) * 1 ≤ _
          have : 0 ≤ v * (u % v) := Int.mul_nonneg v0 m0
          have e1 : v * (2 * (u % v)) = 2 * (v * (u % v)) := by grind
          have e2 : v * u = u * v := Int.mul_comm _ _
          omega
        · obtain ⟨k, hk⟩ : ∃ k, t = k + 1 := ⟨t - 1, by omega⟩
          subst hk
          rw [Nat.add_sub_cancel] at q2
          have p0 : (0 : Int) ≤ 2 ^ k := Int.le_of_lt (p2p k)
          have a2 : v * (2 * (u % v)) * 2 ^ k ≤ v * u * 2 ^ k := Int.mul_le_mul_of_nonneg_right a1 p0
          have e1 : v * (u % v) * 2 ^ (k + 1) = v * (2 * (u % v)) * 2 ^ k := by rw [p2s]; grind
          have e2 : v * u * 2 ^ k = u * v * 2 ^ k := by rw [Int.mul_comm v u]
          omega
/-- within 63 bits and a sign -/
def w63 (F : List Int) : Prop := ∀ k, -9223372036854775807 ≤ pgt F k ∧ pgt F k ≤ 9223372036854775807
theorem makePrimitive_b {a : Nat} {s : im_S} {F : List Int} {Q : im_S → Prop} (h : ply s a F) (hw : w63 F) (hQ : ∀ s' F' g, ply s' a F' → g ≠ 0 → (∀ k, pgt F k = g * pgt F' k) → pyf a s s' → Q s') : C_makePrimitive6 a s Q := by
  refine ⟨fun q => q.2.2 = s ∧ 0 ≤ q.1 ∧ q.1 ≤ 9223372036854775807 ∧ ∃ i : Nat, q.2.1 = (i : Int) ∧ i ≤ 9 ∧ (∀ k, k < i → q.1 ∣ pgt F k) ∧ (q.1 = 0 → ∀ k, k < i → pgt F k = 0), ⟨rfl, Int.le_refl _, by dsimp only; decide, 0, rfl, by omega, fun k hk => by omega, fun _ k hk => by omega⟩, ?_⟩
  rintro ⟨g, x, s1⟩ ⟨e, g0, g1, i, ei, i9, hd, hz⟩
  dsimp only at e g0 g1 ei hd hz ⊢
  subst e
  subst ei
  have h9 := ply_9 h
  refine ⟨fun c => ?_, fun c _ => ?_⟩
  · have i9' : i = 9 := by omega
    subst i9'
    refine lead6_b h (fun v ev => ?_)
    have hv : v = g ∨ v = -g := by
      rw [ev]; split
      · exact Or.inl rfl
      · right; exact w64_id (by omega) (by omega)
    refine ⟨fun v0 => ?_, fun v0 => ?_⟩
    · exact hQ s1 F 1 h (by decide) (fun k => by omega) (pyf_refl _ _)
    · have dall : ∀ k, v ∣ pgt F k := fun k => by
        by_cases ck : k < 9
        · rcases hv with q | q
          · rw [q]; exact hd k ck
          · rw [q]; exact Int.neg_dvd.2 (hd k ck)
        · rw [h9 k (by omega)]; exact Int.dvd_zero _
      have eF : ∀ k, pgt F k = v * pgt (pmk 9 (fun k => (pgt F k).tdiv v)) k := fun k => by
        rw [pmk_gt]
        by_cases ck : k < 9
        · rw [if_pos ck]; exact (Int.mul_tdiv_cancel' (dall k)).symm
        · rw [if_neg ck, h9 k (by omega), Int.mul_zero]
      refine ⟨fun q => ∃ i : Nat, q.1 = (i : Int) ∧ i ≤ 9 ∧ pyf a s1 q.2 ∧ q.2.1 = s1.1 ∧ (∀ k : Nat, k < i → q.2.2 (a + 1) k = (pgt F k).tdiv v) ∧ ∀ k : Nat, i ≤ k → q.2.2 (a + 1) k = s1.2 (a + 1) k, ⟨0, rfl, by omega, pyf_refl _ _, rfl, fun k h2 => by omega, fun k _ => rfl⟩, ?_⟩
      rintro ⟨x, s2⟩ ⟨i, ei, i9, f, ef, h1, h2⟩
      dsimp only at ei f ef h1 h2 ⊢
      subst ei
      refine ⟨fun c2 => ?_, fun c2 hc _ s3 e3 => ?_⟩
      · refine hQ s2 (pmk 9 (fun k => (pgt F k).tdiv v)) v ⟨fun k hk => ?_, ?_⟩ v0 eF f
        · rw [h1 k (by omega), pmk_gt, if_pos hk]
        · rw [ef]
          obtain ⟨d1, d2, d3, d4⟩ := h.2
          refine ⟨d1, d2, fun k hk => ?_, fun z => ?_⟩
          · have e1 := eF k
            rw [d3 k hk] at e1
            rcases Int.mul_eq_zero.1 e1.symm with q | q
            · exact absurd q v0
            · exact q
          · intro q
            have e1 := eF (s1.1 a 0).toNat
            rw [q, Int.mul_zero] at e1
            exact d4 z e1
      · subst e3
        have vv : cga s2 (a + 1) (i : Int) = pgt F i := by
          show s2.2 (a + 1) ((i : Nat) : Int).toNat = _
          rw [Int.toNat_natCast, h2 i (Nat.le_refl _)]
          exact h.1 i (by omega)
        refine ⟨i + 1, w32s (by omega), by omega, gfr_pa f rfl, ef, fun k hk => ?_, fun k hk => ?_⟩
        · rw [cpa_row]
          by_cases ck : k = i
          · rw [if_pos (by omega), vv, ck]
            have := hw i
            exact divJ_eq ⟨by omega, by omega⟩ ⟨by omega, by omega⟩ (by omega)
          · rw [if_neg (by omega)]; exact h1 k (by omega)
        · rw [cpa_row, if_neg (by omega)]; exact h2 k (by omega)
  · have vv : cga s1 (a + 1) (i : Int) = pgt F i := by
      show s1.2 (a + 1) ((i : Nat) : Int).toNat = _
      rw [Int.toNat_natCast]
      exact h.1 i (by omega)
    rw [vv]
    have hwi := hw i
    refine gcd_b (by omega) g1 hwi.1 hwi.2 (fun z z0 z1 z2 z3 z4 => ⟨rfl, z0, z1, i + 1, w32s (by omega), by omega, fun k hk => ?_, fun q k hk => ?_⟩)
    · by_cases ck : k = i
      · rw [ck]; exact z3
      · exact Int.dvd_trans z2 (hd k (by omega))
    · dsimp only at q
      have := z4 q
      by_cases ck : k = i
      · rw [ck]; exact this.2
      · exact hz this.1 k (by omega)
