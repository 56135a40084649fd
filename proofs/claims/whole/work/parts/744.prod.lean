theorem setProduct_b {a b c : Nat} {s : im_S} {x y : Int} {Q : im_S → Prop} (hb : big s b x) (hc : big s c y) (hab : a ≠ b) (hac : a ≠ c) (g1 : gln (a + 1) ≤ 1000) (p q : Nat) (hx : (x.natAbs : Int) < 4294967296 ^ p) (hy : (y.natAbs : Int) < 4294967296 ^ q) (hpq : ((p + q : Nat) : Int) ≤ gln (a + 1)) (hQ : ∀ s', big s' a (x * y) → bfr a s s' → Q s') : C_setProduct1 a b c s Q := by
  obtain ⟨nb, b1, b2, b3, b4, b5⟩ := hb
  obtain ⟨nc, c1, c2, c3, c4, c5⟩ := hc
  have hnb : nb ≤ p := by
    rcases Nat.eq_zero_or_pos nb with h | h
    · omega
    · exact bv_size h (b5 h) hx
  have hnc : nc ≤ q := by
    rcases Nat.eq_zero_or_pos nc with h | h
    · omega
    · exact bv_size h (c5 h) hy
  intro s1 e1
  have ex : w32 (cgf s b 2 * cgf s c 2) = (x * y).sign := by
    have h1 : cgf s b 2 = x.sign := b3
    have h2 : cgf s c 2 = y.sign := c3
    rw [h1, h2, ← Int.sign_mul]
    have : (x * y).sign = 0 ∨ (x * y).sign = 1 ∨ (x * y).sign = -1 := by
      by_cases h : x * y = 0
      · rw [h]; left; rfl
      · exact Or.inr (sign_ne h)
    exact w32_id (by omega) (by omega)
  rw [ex] at e1
  have f1 : bfr a s s1 := by rw [e1]; exact bfr_pf (bfr_refl _ _) (Or.inr rfl)
  have f2 : s1.1 a 2 = (x * y).sign := by rw [e1]; exact cpf_same _ _ _ _
  have r1 : s1.2 = s.2 := by rw [e1]; rfl
  clear e1 ex
  have k1 : cgf s1 b 1 = (nb : Int) := by
    show s1.1 b 1 = _
    rw [f1.1 b 1 (fun z => hab z.1.symm)]; exact b1
  have k2 : cgf s1 c 1 = (nc : Int) := by
    show s1.1 c 1 = _
    rw [f1.1 c 1 (fun z => hac z.1.symm)]; exact c1
  have km : cgf s1 a 2 = (x * y).sign := f2
  obtain ⟨B, hB⟩ : ∃ B : Nat → Int, B = s.2 (b + 1) := ⟨_, rfl⟩
  obtain ⟨D, hD⟩ : ∃ D : Nat → Int, D = s.2 (c + 1) := ⟨_, rfl⟩
  -- from a size on
  have main : ∀ M : Nat, (x * y ≠ 0 → M = nb + nc) → (x * y = 0 → M = 0) → C_setProduct1_42 a b c (M : Int) s1 Q := by
    intro M hM1 hM0 s2 e2
    have hM : M ≤ nb + nc := by
      by_cases h : x * y = 0
      · have := hM0 h; omega
      · have := hM1 h; omega
    have f3 : bfr a s s2 := by rw [e2]; exact bfr_pf f1 (Or.inl rfl)
    have f4 : s2.1 a 1 = (M : Int) := by rw [e2]; exact cpf_same _ _ _ _
    have f5 : s2.1 a 2 = (x * y).sign := by rw [e2, cpf_ne (by omega)]; exact f2
    clear e2
    refine ⟨fun t => bfr a s t.2 ∧ t.2.1 a 1 = (M : Int) ∧ t.2.1 a 2 = (x * y).sign ∧ ∃ i : Nat, t.1 = (i : Int) ∧ i ≤ M ∧ ∀ k, k < i → t.2.2 (a + 1) k = 0, ⟨f3, f4, f5, 0, rfl, by omega, fun k hk => absurd hk (by omega)⟩, ?_⟩
    rintro ⟨l3, s3⟩ ⟨g1, g2, g3, i, e9, i1, i2⟩
    dsimp only at g1 g2 g3 e9 i2 ⊢
    subst e9
    have gc : cgf s3 a 1 = (M : Int) := g2
    unfold C_setProduct1_47
    rw [gc]
    refine ⟨fun h => ?_, fun h hb s4 e4 => ?_⟩
    rotate_left
    · subst e4
      have e8 : w32 ((i : Int) + 1) = ((i + 1 : Nat) : Int) := by rw [w32_id (by omega) (by omega)]; omega
      rw [e8]
      refine ⟨bfr_pa g1, g2, g3, i + 1, rfl, by omega, fun k hk => ?_⟩
      rw [row_up]
      split
      · rfl
      · exact i2 k (by omega)
    have ei : i = M := by omega
    subst ei
    clear h
    -- the rows
    refine ⟨fun t => bfr a s t.2 ∧ t.2.1 a 1 = (i : Int) ∧ t.2.1 a 2 = (x * y).sign ∧ ∃ j : Nat, t.1 = (j : Int) ∧ (i ≠ 0 → j ≤ nb) ∧ (i = 0 → j = 0) ∧ (i ≠ 0 → bv (t.2.2 (a + 1)) (j + nc) = bv B j * bv D nc ∧ ∀ k, j + nc ≤ k → k < i → t.2.2 (a + 1) k = 0), ⟨g1, g2, g3, 0, rfl, fun _ => by omega, fun _ => rfl, fun h0 => ⟨?_, fun k hk hk2 => i2 k hk2⟩⟩, ?_⟩
    · rw [bv_0, Int.zero_mul]
      have hi : i = nb + nc := hM1 (fun h => h0 (hM0 h))
      have := bv_zeros (f := s3.2 (a + 1)) (n := 0) (m := 0 + nc) (by omega) (fun k _ hk => by rw [i2 k (by omega)]; rfl)
      rw [this]; rfl
    clear g1 g2 g3 gc i2 s3
    rintro ⟨l3, s3⟩ ⟨g1, g2, g3, j, e9, j1, j10, j2⟩
    dsimp only at g1 g2 g3 e9 j2 ⊢
    subst e9
    have gc : cgf s3 a 1 = (i : Int) := g2
    have gb : cgf s3 b 1 = (nb : Int) := by
      show s3.1 b 1 = _
      rw [g1.1 b 1 (fun z => hab z.1.symm)]; exact b1
    have gcc : cgf s3 c 1 = (nc : Int) := by
      show s3.1 c 1 = _
      rw [g1.1 c 1 (fun z => hac z.1.symm)]; exact c1
    have fin : (i ≠ 0 → j = nb) → C_setProduct1_216 a s3 Q := by
      intro hj
      refine trim_b (n := i) (m := (x * y).sign) (v := x * y) g2 (by omega) g3 ?_ (fun _ => rfl) (fun s9 l1 l2 _ => hQ _ l1 (bfr_trans g1 l2))
      by_cases h0 : i = 0
      · subst h0
        have : x * y = 0 := by
          by_cases h : x * y = 0
          · exact h
          · exfalso
            have := hM1 h
            have hb0 : nb = 0 := by omega
            have := (big_n0 (s := s) b4 b5).mp hb0
            exact h (by rw [this, Int.zero_mul])
        rw [this]; rfl
      · have hi : i = nb + nc := hM1 (fun h => h0 (hM0 h))
        have ej := hj h0
        subst ej
        rw [hi, (j2 h0).1, hB, hD, b4, c4, Int.natAbs_mul, Int.natCast_mul]
    unfold C_setProduct1_70
    rw [gb, gc]
    refine ⟨fun h => fin (fun h0 => ?_), fun h => ⟨fun h2 => fin (fun h0 => ?_), fun h2 hca => ?_⟩⟩
    · have := j1 h0; omega
    · exfalso
      have hi : i = nb + nc := hM1 (fun h => h0 (hM0 h))
      omega
    have h0 : i ≠ 0 := by omega
    have hi : i = nb + nc := hM1 (fun h => h0 (hM0 h))
    obtain ⟨j2a, j2b⟩ := j2 h0
    rw [gcc, w32_id (by omega) (by omega)]
    refine min_J ?_
    have em : min (nc : Int) ((i : Int) - (j : Int)) = (nc : Int) := by omega
    rw [em]
    have eF : andJ (cga s3 (b + 1) (j : Int)) 4294967295 = B j % 4294967296 := by rw [mask_at, g1.2 (b + 1) (by omega), hB]
    rw [eF]
    obtain ⟨F, hF⟩ : ∃ F : Int, F = B j % 4294967296 := ⟨_, rfl⟩
    have F0 : 0 ≤ F := by rw [hF]; exact Int.emod_nonneg _ (by decide)
    have F1 : F ≤ 4294967295 := by have : F < 4294967296 := by rw [hF]; exact Int.emod_lt_of_pos _ (by decide)
                                   omega
    rw [← hF]
    refine ⟨fun t => (0 ≤ t.1 ∧ t.1 ≤ 4294967295) ∧ bfr a s t.2.2 ∧ t.2.2.1 a 1 = (i : Int) ∧ t.2.2.1 a 2 = (x * y).sign ∧ ∃ k : Nat, t.2.1 = (k : Int) ∧ k ≤ nc ∧ bv (t.2.2.2 (a + 1)) (j + k) + t.1 * 4294967296 ^ (j + k) = bv (s3.2 (a + 1)) (j + k) + 4294967296 ^ j * (F * bv D k) ∧ ∀ m, j + k ≤ m → t.2.2.2 (a + 1) m = s3.2 (a + 1) m, ⟨⟨Int.le_refl _, by omega⟩, g1, g2, g3, 0, rfl, by omega, by simp [bv_0], fun _ _ => rfl⟩, ?_⟩
    rintro ⟨cr, l9, s4⟩ ⟨⟨r0, r9⟩, u1, u2, u3, k, e9, k0, k3, k4⟩
    dsimp only at r0 r9 u1 u2 u3 e9 k3 k4 ⊢
    subst e9
    have uc : cgf s4 a 1 = (i : Int) := u2
    unfold C_setProduct1_120
    rw [uc]
    refine ⟨fun h => ?_, fun h hca1 hca2 hb s10 e10 => ?_⟩
    · have ek : k = nc := by omega
      subst ek
      have e5 : w32 ((j : Int) + (k : Int)) = ((j + k : Nat) : Int) := by rw [w32_id (by omega) (by omega)]; omega
      rw [e5]
      refine ⟨fun h => by omega, fun h hb s7 e7 => ?_⟩
      subst e7
      have e8 : w32 ((j : Int) + 1) = ((j + 1 : Nat) : Int) := by rw [w32_id (by omega) (by omega)]; omega
      unfold C_setProduct1_210
      rw [e8]
      refine ⟨bfr_pa u1, u2, u3, j + 1, rfl, fun _ => by omega, fun h => absurd h h0, fun _ => ⟨?_, fun m hm hm2 => ?_⟩⟩
      · have e6 : j + 1 + k = (j + k) + 1 := by omega
        rw [e6, bv_s, bv_congr (g := s4.2 (a + 1)) (fun m hm => by rw [row_up, if_neg (by omega)]), row_up, if_pos rfl, w32_mod, Int.emod_eq_of_lt r0 (by omega), k3, j2a, bv_s B, ← hF, Int.add_mul]
        have e7 : 4294967296 ^ j * (F * bv D k) = F * 4294967296 ^ j * bv D k := by rw [Int.mul_left_comm, Int.mul_assoc]
        omega
      · rw [row_up, if_neg (by omega), k4 m (by omega)]
        exact j2b m (by omega) hm2
    · have e5 : w32 ((j : Int) + (k : Int)) = ((j + k : Nat) : Int) := by rw [w32_id (by omega) (by omega)]; omega
      rw [e5] at e10 ⊢
      have eD : andJ (cga s4 (c + 1) (k : Int)) 4294967295 = D k % 4294967296 := by rw [mask_at, u1.2 (c + 1) (by omega), hD]
      have eR : andJ (cga s4 (a + 1) ((j + k : Nat) : Int)) 4294967295 = s3.2 (a + 1) (j + k) % 4294967296 := by rw [mask_at, k4 _ (Nat.le_refl _)]
      rw [eD, eR] at e10 ⊢
      obtain ⟨G, hG⟩ : ∃ G : Int, G = D k % 4294967296 := ⟨_, rfl⟩
      obtain ⟨R, hR⟩ : ∃ R : Int, R = s3.2 (a + 1) (j + k) % 4294967296 := ⟨_, rfl⟩
      have G0 : 0 ≤ G := by rw [hG]; exact Int.emod_nonneg _ (by decide)
      have G1 : G < 4294967296 := by rw [hG]; exact Int.emod_lt_of_pos _ (by decide)
      have R0 : 0 ≤ R := by rw [hR]; exact Int.emod_nonneg _ (by decide)
      have R1 : R < 4294967296 := by rw [hR]; exact Int.emod_lt_of_pos _ (by decide)
      rw [← hG, ← hR] at e10 ⊢
      obtain ⟨t, ht⟩ : ∃ t : Int, t = cr + (F * G + R) := ⟨_, rfl⟩
      have FG0 := Int.mul_nonneg F0 G0
      have FG1 : F * G ≤ 4294967295 * 4294967295 := by
        have h1 : F * G ≤ 4294967295 * G := Int.mul_le_mul_of_nonneg_right F1 G0
        omega
      have et : w64 (cr + w64 (w64 (F * G) + R)) % 18446744073709551616 = t := by
        rw [w64_mod, Int.add_emod, w64_mod, Int.add_emod (w64 (F * G)), w64_mod, ← Int.add_emod (F * G), ← Int.add_emod]
        omega
      have e6 : ushJ (w64 (cr + w64 (w64 (F * G) + R))) 32 = t / 4294967296 := by rw [ushJ_32, et]
      have e7 : w32 (w64 (cr + w64 (w64 (F * G) + R))) % 4294967296 = t % 4294967296 := by rw [w32_mod]; omega
      have e8 : w32 ((k : Int) + 1) = ((k + 1 : Nat) : Int) := by rw [w32_id (by omega) (by omega)]; omega
      rw [e6, e8]
      generalize w32 (w64 (cr + w64 (w64 (F * G) + R))) = L at *
      subst e10
      refine ⟨⟨by omega, by omega⟩, bfr_pa u1, u2, u3, k + 1, rfl, by omega, ?_, fun m hm => ?_⟩
      · have st := add_step (row := s4.2 (a + 1)) (row' := (cpa s4 (a + 1) ((j + k : Nat) : Int) L).2 (a + 1)) (i := j + k) (c := cr) (t := t) (x := F * G + R) k3 (fun m hm => by rw [row_up, if_neg (by omega)]) (by rw [row_up, if_pos rfl, e7]) ht
        show bv ((cpa s4 (a + 1) ((j + k : Nat) : Int) L).2 (a + 1)) (j + k + 1) + _ * 4294967296 ^ (j + k + 1) = bv (s3.2 (a + 1)) (j + k + 1) + _
        rw [st, bv_s (s3.2 (a + 1)), ← hR, bv_s D, ← hG, Int.add_mul, Int.mul_add F, Int.mul_add]
        have e7 : 4294967296 ^ j * (F * (G * 4294967296 ^ k)) = F * G * 4294967296 ^ (j + k) := by
          rw [Int.pow_add, ← Int.mul_assoc F, Int.mul_left_comm]
        omega
      · rw [row_up, if_neg (by omega)]
        exact k4 m (by omega)
  rw [k1, k2, w32_id (by omega) (by omega), km]
  refine ⟨fun h => min_J ?_, fun h => ?_⟩
  · have em : min ((nb : Int) + (nc : Int)) (gln (a + 1)) = ((nb + nc : Nat) : Int) := by omega
    rw [em]
    exact main _ (fun _ => rfl) (fun h0 => by rw [h0] at h; exact absurd rfl h)
  · exact main 0 (fun h0 => by rcases sign_ne h0 with z | z <;> omega) (fun _ => rfl)
