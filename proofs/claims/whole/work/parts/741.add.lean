theorem shrink_b {a b na nb : Nat} {s : im_S} {A B m : Int} {Q : im_S → Prop} (hab : a ≠ b) (g0 : 0 ≤ gln (a + 1)) (a1 : s.1 a 1 = (na : Int)) (a4 : bv (s.2 (a + 1)) na = A) (a6 : na ≤ rm9 a) (b1 : s.1 b 1 = (nb : Int)) (b4 : bv (s.2 (b + 1)) nb = B) (b6 : nb ≤ rm9 a) (hm : s.1 a 2 = m) (hm2 : m = 1 ∨ m = -1) (hQ : ∀ s' : im_S, s'.1 a 1 = ((max na nb : Nat) : Int) → s'.1 a 2 = (if A < B then -m else m) → bv (s'.2 (a + 1)) (max na nb) = ((A - B).natAbs : Int) → bfr a s s' → Q s') : C_shrink1 a b s Q := by
  have hg := (gln_r (a + 1)).2
  have hA : 0 ≤ A := by rw [← a4]; exact bv_nn _ _
  have hB : 0 ≤ B := by rw [← b4]; exact bv_nn _ _
  have hrm : (rm9 a : Int) = gln (a + 1) := by unfold rm9; omega
  have ac : cgf s a 1 = (na : Int) := a1
  have bc : cgf s b 1 = (nb : Int) := b1
  obtain ⟨M, hM⟩ : ∃ M : Nat, M = max na nb := ⟨_, rfl⟩
  rw [← hM] at hQ
  refine max_J (min_J ?_)
  have em : min (max (cgf s a 1) (cgf s b 1)) (gln (a + 1)) = (M : Int) := by omega
  rw [em]
  have hAM : A < 4294967296 ^ M := by rw [← a4]; exact Int.lt_of_lt_of_le (bv_lt _ _) (w_le (by omega))
  have hBM : B < 4294967296 ^ M := by rw [← b4]; exact Int.lt_of_lt_of_le (bv_lt _ _) (w_le (by omega))
  refine ⟨fun q => (-1 ≤ q.1 ∧ q.1 ≤ 0) ∧ bfr a s q.2.2 ∧ q.2.2.1 a 1 = (na : Int) ∧ q.2.2.1 a 2 = m ∧ ∃ i : Nat, q.2.1 = (i : Int) ∧ i ≤ M ∧ bv (q.2.2.2 (a + 1)) i + q.1 * 4294967296 ^ i = bv (ext (s.2 (a + 1)) na) i - bv (ext (s.2 (b + 1)) nb) i ∧ ∀ k, i ≤ k → q.2.2.2 (a + 1) k = s.2 (a + 1) k, ⟨⟨Int.le_of_lt (by decide : (-1 : Int) < 0), Int.le_refl _⟩, bfr_refl _ _, a1, hm, 0, rfl, by omega, rfl, fun _ _ => rfl⟩, ?_⟩
  rintro ⟨c, l5, s'⟩ ⟨⟨c0, c1⟩, f1, f2, f3, i, e1, i1, i2, i3⟩
  dsimp only at c0 c1 f1 f2 f3 e1 i2 i3 ⊢
  subst e1
  have fc : cgf s' a 1 = (na : Int) := f2
  have fb : cgf s' b 1 = (nb : Int) := by
    show s'.1 b 1 = _
    rw [f1.1 b 1 (by omega)]; exact b1
  unfold C_shrink1_26
  refine ⟨fun h s6 e6 => ?_, fun h v hv u hu hb s4 e4 => ?_⟩
  · have e : i = M := by omega
    subst e
    rw [bv_ext (by omega), bv_ext (by omega), a4, b4] at i2
    subst e6
    have r0 := bv_nn (s'.2 (a + 1)) i
    have r1 := bv_lt (s'.2 (a + 1)) i
    refine ⟨fun hc => ?_, fun hc s10 e10 => ?_⟩
    · subst hc
      refine hQ _ (cpf_same _ _ _ _) ?_ ?_ (bfr_pf f1 (Or.inl rfl))
      · rw [cpf_ne (by omega), if_neg (by omega)]; exact f3
      · show bv (s'.2 (a + 1)) i = _
        omega
    · have ec : c = -1 := by omega
      subst ec
      subst e10
      have em2 : cgf (cpf s' a 1 (i : Int)) a 2 = m := by
        show (cpf s' a 1 (i : Int)).1 a 2 = m
        rw [cpf_ne (by omega)]; exact f3
      rw [em2, w32_id (by omega) (by omega)]
      refine ⟨fun q => (0 ≤ q.1 ∧ q.1 ≤ 1) ∧ bfr a s q.2.2 ∧ q.2.2.1 a 1 = (i : Int) ∧ q.2.2.1 a 2 = -m ∧ ∃ j : Nat, q.2.1 = (j : Int) ∧ j ≤ i ∧ bv (q.2.2.2 (a + 1)) j + q.1 * 4294967296 ^ j = 4294967296 ^ j - bv (s'.2 (a + 1)) j ∧ ∀ k, j ≤ k → q.2.2.2 (a + 1) k = s'.2 (a + 1) k, ⟨⟨Int.le_of_lt (by decide : (0 : Int) < 1), Int.le_refl _⟩, bfr_pf (bfr_pf f1 (Or.inl rfl)) (Or.inr rfl), ?_, cpf_same _ _ _ _, 0, rfl, by omega, rfl, fun _ _ => rfl⟩, ?_⟩
      · rw [cpf_ne (by omega)]; exact cpf_same _ _ _ _
      rintro ⟨c, l7, t⟩ ⟨⟨c0, c1⟩, g1, g2, g3, j, e1, j1, j2, j3⟩
      dsimp only at c0 c1 g1 g2 g3 e1 j2 j3 ⊢
      subst e1
      unfold C_shrink1_134
      refine ⟨fun h => ?_, fun h hca hb s3 e3 => ?_⟩
      · have e : j = i := by omega
        subst e
        have t0 := bv_nn (t.2 (a + 1)) j
        have ec : c = 0 := by
          rcases (show c = 0 ∨ c = 1 by omega) with e | e
          · exact e
          · subst e; omega
        subst ec
        refine hQ t g2 ?_ ?_ g1
        · rw [g3, if_pos (by omega)]
        · omega
      · have hx : andJ (xorI (cga t (a + 1) (j : Int)) (-1)) 4294967295 = 4294967295 - s'.2 (a + 1) j % 4294967296 := by
          have e0 : cga t (a + 1) (j : Int) = s'.2 (a + 1) j := by
            show t.2 (a + 1) ((j : Nat) : Int).toNat = _
            rw [Int.toNat_natCast, j3 j (Nat.le_refl _)]
          rw [andJ_mask, xorI_not, e0]
          omega
        rw [hx] at e3 ⊢
        obtain ⟨y, hy⟩ : ∃ y : Int, y = s'.2 (a + 1) j % 4294967296 := ⟨_, rfl⟩
        have y0 : 0 ≤ y := by rw [hy]; exact Int.emod_nonneg _ (by decide)
        have y1 : y < 4294967296 := by rw [hy]; exact Int.emod_lt_of_pos _ (by decide)
        rw [← hy] at e3 ⊢
        have e6 : w64 (c + (4294967295 - y)) = c + (4294967295 - y) := w64_id (by omega) (by omega)
        rw [e6] at e3 ⊢
        have e7 : ushJ (c + (4294967295 - y)) 32 = (c + (4294967295 - y)) / 4294967296 := by rw [ushJ_32]; omega
        have e8 : w32 ((j : Int) + 1) = ((j + 1 : Nat) : Int) := by rw [w32_id (by omega) (by omega)]; omega
        rw [e7, e8]
        subst e3
        refine ⟨⟨by omega, by omega⟩, bfr_pa g1, g2, g3, j + 1, rfl, by omega, ?_, fun k hk => ?_⟩
        · have st := add_step (row := t.2 (a + 1)) (row' := (cpa t (a + 1) (j : Int) (w32 (c + (4294967295 - y)))).2 (a + 1)) (i := j) (c := c) (t := c + (4294967295 - y)) (x := 4294967295 - y) j2 (fun k hk => by rw [row_up, if_neg (by omega)]) (by rw [row_up, if_pos rfl, w32_mod]) rfl
          rw [st, bv_s (s'.2 (a + 1)), ← hy, w_succ, Int.sub_mul]
          omega
        · rw [row_up, if_neg (by omega)]
          exact j3 k (by omega)
  · have hv : v = ext (s.2 (a + 1)) na i % 4294967296 := by
      rw [hv, ← ext_ite (x := andJ (cga s' (a + 1) (i : Int)) 4294967295) (fun _ => by rw [mask_at, i3 i (Nat.le_refl _)]), fc]
    have hu : u = ext (s.2 (b + 1)) nb i % 4294967296 := by
      rw [hu, ← ext_ite (x := andJ (cga s' (b + 1) (i : Int)) 4294967295) (fun _ => by rw [mask_at, f1.2 (b + 1) (by omega)]), fb]
    have v0 : 0 ≤ v := by rw [hv]; exact Int.emod_nonneg _ (by decide)
    have v1 : v < 4294967296 := by rw [hv]; exact Int.emod_lt_of_pos _ (by decide)
    have u0 : 0 ≤ u := by rw [hu]; exact Int.emod_nonneg _ (by decide)
    have u1 : u < 4294967296 := by rw [hu]; exact Int.emod_lt_of_pos _ (by decide)
    have e6 : w64 (c + w64 (v - u)) = c + (v - u) := by rw [w64_id (x := v - u) (by omega) (by omega), w64_id (by omega) (by omega)]
    rw [e6] at e4 ⊢
    have e7 : shrJ (c + (v - u)) 32 = (c + (v - u)) / 4294967296 := shrJ_32 ⟨by omega, by omega⟩
    have e8 : w32 ((i : Int) + 1) = ((i + 1 : Nat) : Int) := by rw [w32_id (by omega) (by omega)]; omega
    rw [e7, e8]
    subst e4
    refine ⟨⟨by omega, by omega⟩, bfr_pa f1, f2, f3, i + 1, rfl, by omega, ?_, fun k hk => ?_⟩
    · have st := add_step (row := s'.2 (a + 1)) (row' := (cpa s' (a + 1) (i : Int) (w32 (c + (v - u)))).2 (a + 1)) (i := i) (c := c) (t := c + (v - u)) (x := v - u) i2 (fun k hk => by rw [row_up, if_neg (by omega)]) (by rw [row_up, if_pos rfl, w32_mod]) rfl
      rw [st, bv_s (ext (s.2 (a + 1)) na), bv_s (ext (s.2 (b + 1)) nb), ← hv, ← hu, Int.sub_mul]
      omega
    · rw [row_up, if_neg (by omega)]
      exact i3 k (by omega)
theorem sign_mul1 {v w : Int} (hw : w = 1 ∨ w = -1) : v.sign * w = (v * w).sign := by
  rcases hw with rfl | rfl
  · simp
  · rw [Int.mul_neg, Int.mul_neg, Int.mul_one, Int.mul_one, Int.sign_neg]
theorem add_b {a b : Nat} {s : im_S} {x y w : Int} {Q : im_S → Prop} (ha : big s a x) (hb : big s b y) (hab : a ≠ b) (g0 : 0 ≤ gln (a + 1)) (hw : w = 1 ∨ w = -1) (hr : (x.natAbs : Int) + (y.natAbs : Int) < 4294967296 ^ rm9 a) (hQ : ∀ s', big s' a (x + w * y) → bfr a s s' → Q s') : C_add1 a b w s Q := by
  obtain ⟨na, a1, a2, a3, a4, a5⟩ := ha
  obtain ⟨nb, b1, b2, b3, b4, b5⟩ := hb
  have hrm : (rm9 a : Int) = gln (a + 1) := by unfold rm9; omega
  have hbs : cgf s b 2 = y.sign := b3
  have has : cgf s a 2 = x.sign := a3
  have ys : y.sign = 0 ∨ y.sign = 1 ∨ y.sign = -1 := by
    by_cases h : y = 0
    · subst h; left; rfl
    · exact Or.inr (sign_ne h)
  have hnb : nb ≤ rm9 a := by
    rcases Nat.eq_zero_or_pos nb with h | h
    · omega
    · exact bv_size h (b5 h) (by omega)
  have e1 : w32 (cgf s b 2 * w) = (y * w).sign := by
    rw [hbs, ← sign_mul1 hw]
    rcases ys with h | h | h <;> rcases hw with h2 | h2 <;> (rw [h, h2]; decide)
  have hyw : y * w = w * y := Int.mul_comm _ _
  unfold C_add1
  rw [e1, has]
  rw [hyw]
  have hn : (w * y).natAbs = y.natAbs := by
    rcases hw with h | h <;> (rw [h]; omega)
  have hwy : w * y = y ∨ w * y = -y := by
    rcases hw with h | h <;> (rw [h]; omega)
  clear e1 hyw hbs has ys
  generalize w * y = z at *
  clear hw
  refine ⟨fun c => ⟨fun c2 => ⟨fun c3 => ?_, fun c3 => ?_⟩, fun c2 => ?_⟩, fun c => ?_⟩
  · -- marks differ
    have y0 : z ≠ 0 := by intro h; subst h; simp at c
    have x0 : x ≠ 0 := by intro h; subst h; simp at c2
    refine shrink_b hab g0 a1 a4 (by omega) b1 b4 hnb a3 (sign_ne x0) (fun s' k1 k2 k3 k4 => ?_)
    refine trim_b (v := x + z) k1 (by omega) rfl ?_ (fun hv => ?_) (fun s9 l1 l2 _ => hQ _ l1 (bfr_trans k4 l2))
    · rw [k3]
      rcases Int.lt_trichotomy x 0 with hx | hx | hx
      · rw [Int.sign_eq_neg_one_of_neg hx] at c3
        have : 0 < z := by
          rcases Int.lt_trichotomy (z) 0 with h | h | h
          · exact absurd (Int.sign_eq_neg_one_of_neg h).symm c3
          · rw [h] at c; exact absurd rfl c
          · exact h
        omega
      · exact absurd hx x0
      · rw [Int.sign_eq_one_of_pos hx] at c3
        have : z < 0 := by
          rcases Int.lt_trichotomy (z) 0 with h | h | h
          · exact h
          · rw [h] at c; exact absurd rfl c
          · exact absurd (Int.sign_eq_one_of_pos h).symm c3
        omega
    · rw [k2]
      rcases Int.lt_trichotomy x 0 with hx | hx | hx
      · rw [Int.sign_eq_neg_one_of_neg hx] at c3 ⊢
        have : 0 < z := by
          rcases Int.lt_trichotomy (z) 0 with h | h | h
          · exact absurd (Int.sign_eq_neg_one_of_neg h).symm c3
          · rw [h] at c; exact absurd rfl c
          · exact h
        by_cases hlt : (x.natAbs : Int) < (y.natAbs : Int)
        · rw [if_pos hlt, Int.sign_eq_one_of_pos (by omega)]; rfl
        · rw [if_neg hlt, Int.sign_eq_neg_one_of_neg (by omega)]
      · exact absurd hx x0
      · rw [Int.sign_eq_one_of_pos hx] at c3 ⊢
        have : z < 0 := by
          rcases Int.lt_trichotomy (z) 0 with h | h | h
          · exact h
          · rw [h] at c; exact absurd rfl c
          · exact absurd (Int.sign_eq_one_of_pos h).symm c3
        by_cases hlt : (x.natAbs : Int) < (y.natAbs : Int)
        · rw [if_pos hlt, Int.sign_eq_neg_one_of_neg (by omega)]
        · rw [if_neg hlt, Int.sign_eq_one_of_pos (by omega)]
  · -- marks alike
    have key : ((x + z).natAbs : Int) = (x.natAbs : Int) + (y.natAbs : Int) ∧ (x + z).sign = x.sign := by
      rcases Int.lt_trichotomy x 0 with hx | hx | hx
      · rw [Int.sign_eq_neg_one_of_neg hx] at c3 ⊢
        have h : z < 0 := by
          rcases Int.lt_trichotomy (z) 0 with h | h | h
          · exact h
          · rw [h] at c; exact absurd rfl c
          · rw [Int.sign_eq_one_of_pos h] at c3; omega
        exact ⟨by omega, Int.sign_eq_neg_one_of_neg (by omega)⟩
      · subst hx; exact absurd rfl c2
      · rw [Int.sign_eq_one_of_pos hx] at c3 ⊢
        have h : 0 < z := by
          rcases Int.lt_trichotomy (z) 0 with h | h | h
          · rw [Int.sign_eq_neg_one_of_neg h] at c3; omega
          · rw [h] at c; exact absurd rfl c
          · exact h
        exact ⟨by omega, Int.sign_eq_one_of_pos (by omega)⟩
    refine grow_b hab g0 a1 a4 a5 (by omega) b1 b4 b5 hr (fun s' n k1 k2 k3 k4 k5 k6 => ?_)
    refine hQ s' ⟨n, k1, by omega, ?_, ?_, fun h0 => ?_⟩ k6
    · rw [k3, key.2]; exact a3
    · rw [k4, key.1]
    · rw [key.1]; exact k5 h0
  · -- the first is 0
    have x0 : x = 0 := by
      rcases Int.lt_trichotomy x 0 with h | h | h
      · rw [Int.sign_eq_neg_one_of_neg h] at c2; omega
      · exact h
      · rw [Int.sign_eq_one_of_pos h] at c2; omega
    subst x0
    refine copy_b (v := y) ⟨nb, b1, b2, b3, b4, b5⟩ hab (by omega) g0 (fun s' k1 k2 s15 e15 => ?_)
    obtain ⟨n, q1, q2, q3, q4, q5⟩ := k1
    subst e15
    refine hQ _ ⟨n, ?_, q2, ?_, ?_, ?_⟩ (bfr_pf k2 (Or.inr rfl))
    · rw [cpf_ne (by omega)]; exact q1
    · rw [cpf_same, Int.zero_add]
    · rw [Int.zero_add, hn]; exact q4
    · rw [Int.zero_add, hn]; exact q5
  · -- the second is 0
    have y0 : y = 0 := by
      by_cases h : y = 0
      · exact h
      · exfalso
        have : z ≠ 0 := by omega
        rcases sign_ne this with h3 | h3 <;> (rw [h3] at c; omega)
    have z0 : z = 0 := by omega
    subst z0
    refine hQ s ?_ (bfr_refl _ _)
    rw [Int.add_zero]
    exact ⟨na, a1, a2, a3, a4, a5⟩
