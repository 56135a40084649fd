theorem cvs_z {p q : po} {k : Nat} : ∀ {m m' : Nat}, m ≤ m' → (∀ i, m ≤ i → i < m' → p i = 0) → cvs p q k m' = cvs p q k m
  | m, 0, h, _ => by rw [show m = 0 by omega]
  | m, m' + 1, h, hz => by
    by_cases c : m = m' + 1
    · rw [c]
    · show cvs p q k m' + _ = _
      rw [cvs_z (m := m) (m' := m') (by omega) (fun i h1 h2 => hz i h1 (by omega)), hz m' (by omega) (by omega)]
      split <;> omega
theorem cvs_b {p q : po} (fp : fin9 p) (fq : fin9 q) {k : Nat} (hk : k < 9) : ∀ {m : Nat}, m ≤ 9 → -(1000000000000000000 * (m : Int)) ≤ cvs p q k m ∧ cvs p q k m ≤ 1000000000000000000 * (m : Int)
  | 0, _ => by show _ ≤ (0 : Int) ∧ (0 : Int) ≤ _; omega
  | m + 1, h => by
    have ih := cvs_b fp fq hk (m := m) (by omega)
    show _ ≤ cvs p q k m + _ ∧ cvs p q k m + _ ≤ _
    split
    · have b1 := fp m (by omega)
      have b2 := fq (k - m) (by omega)
      have b4 : (p m * q (k - m)).natAbs ≤ 1000000000 * 1000000000 := by rw [Int.natAbs_mul]; exact Nat.mul_le_mul (by omega) (by omega)
      omega
    · omega
theorem prod_b {x y : Int} (h1 : -1000000000 ≤ x ∧ x ≤ 1000000000) (h2 : -1000000000 ≤ y ∧ y ≤ 1000000000) : -1000000000000000000 ≤ x * y ∧ x * y ≤ 1000000000000000000 := by
  have b4 : (x * y).natAbs ≤ 1000000000 * 1000000000 := by rw [Int.natAbs_mul]; exact Nat.mul_le_mul (by omega) (by omega)
  omega
theorem multiply_v {s : im_S} {a b : Nat} {w : Int} {P R : po} {Q : im_S → Prop} (ha : 5 ≤ a ∧ a ≤ 57) (hb : 5 ≤ b ∧ b ≤ 57) (h0 : s.1 2 4 = 0) (hP : slp s a P) (hR : slp s b R) (fP : fin9 P) (fR : fin9 R) (h1 : ∀ m, mulo P R (some m) → ∀ s', slp s' a m → fin9 m → prf a s s' → Q s') (h2 : mulo P R none → ∀ s', bdS s' (3, w) → Q s') : C_multiply7 a b w s Q := by
  obtain ⟨p1, p2, p3, p4⟩ := slp_d hP
  obtain ⟨r1, r2, r3, r4⟩ := slp_d hR
  have m35 : (∀ i j : Nat, i < 9 → j < 9 → P i ≠ 0 → R j ≠ 0 → i + j ≤ 8) → C_multiply7_35 a b w s Q := fun no => by
    have nov : ¬ ovf P R := fun ⟨i, j, a1, a2, a3, a4, a5⟩ => by have := no i j a1 a2 a3 a4; omega
    refine ⟨fun q => ∃ i : Nat, q.1 = (i : Int) ∧ i ≤ 9 ∧ gfr (fun _ _ => False) (fun c => c = 59) s q.2 ∧ ∀ k : Nat, k < i → q.2.2 59 k = 0, ⟨0, rfl, by omega, gfr_refl _ _ _, fun k hk => by omega⟩, ?_⟩
    rintro ⟨x, s1⟩ ⟨i, e, i9, f1, z1⟩
    dsimp only at e f1 z1 ⊢
    subst e
    refine ⟨fun c => ?_, fun c _ s2 e2 => ?_⟩
    · refine ⟨fun q => ∃ i : Nat, q.1 = (i : Int) ∧ i ≤ 9 ∧ gfr (fun _ _ => False) (fun c => c = 59) s q.2 ∧ ∀ k : Nat, k < 9 → q.2.2 59 k = cvs P R k i, ⟨0, rfl, by omega, f1, fun k hk => z1 k (by omega)⟩, ?_⟩
      rintro ⟨y, s2⟩ ⟨m, e, m9, f2, z2⟩
      dsimp only at e f2 z2 ⊢
      subst e
      have dP : cgf s2 a 0 = s.1 a 0 := f2.1 _ _ (fun z => z)
      have dR : cgf s2 b 0 = s.1 b 0 := f2.1 _ _ (fun z => z)
      unfold C_multiply7_62
      rw [dP]
      refine ⟨fun d => ?_, fun d => ?_⟩
      · refine accept_v (R := poM P R) ha (by rw [f2.1 _ _ (fun z => z)]; exact h0) (fun k hk => ?_) (fun k hk => ?_) (fun q s3 h3 f3 => h1 _ (Or.inr ⟨rfl, nov, q⟩) s3 h3 q (prf_py (gfr_mono f2 (fun c f e => e.elim) (fun c e => Or.inr e)) f3)) (fun q s3 b3 => h2 (Or.inl ⟨rfl, Or.inr q⟩) s3 b3)
        · rw [z2 k hk]
          exact (cvs_z (m := m) (m' := 9) m9 (fun i hi1 hi2 => p3 i hi2 (by omega))).symm
        · have := cvs_b fP fR hk (m := 9) (by omega)
          show -9000000000000000000 ≤ cvs P R k 9 ∧ cvs P R k 9 ≤ _
          omega
      · have m8 : m ≤ 8 := by omega
        refine ⟨fun q => ∃ t : Nat, q.1 = (t : Int) ∧ t ≤ 9 ∧ gfr (fun _ _ => False) (fun c => c = 59) s q.2 ∧ ∀ k : Nat, k < 9 → q.2.2 59 k = cvs P R k m + (if m ≤ k ∧ k < m + t then P m * R (k - m) else 0), ⟨0, rfl, by omega, f2, fun k hk => by rw [if_neg (by omega)]; rw [z2 k hk]; omega⟩, ?_⟩
        rintro ⟨z, s3⟩ ⟨t, e, t9, f3, z3⟩
        dsimp only at e f3 z3 ⊢
        subst e
        have dR3 : cgf s3 b 0 = s.1 b 0 := f3.1 _ _ (fun z => z)
        have out : (∀ k : Nat, k < 9 → m ≤ k → m + t ≤ k → P m * R (k - m) = 0) → C_multiply7_127 (fun q => ∃ i : Nat, q.1 = (i : Int) ∧ i ≤ 9 ∧ gfr (fun _ _ => False) (fun c => c = 59) s q.2 ∧ ∀ k : Nat, k < 9 → q.2.2 59 k = cvs P R k i) a b w (m : Int) s3 Q := fun hz => by
          refine ⟨m + 1, w32s (by omega), by omega, f3, fun k hk => ?_⟩
          rw [z3 k hk]
          show _ = cvs P R k m + (if m ≤ k then P m * R (k - m) else 0)
          by_cases c1 : m ≤ k
          · rw [if_pos c1]
            by_cases c2 : k < m + t
            · rw [if_pos ⟨c1, c2⟩]
            · rw [if_neg (by omega), hz k hk c1 (by omega)]
          · rw [if_neg (by omega), if_neg c1]
        unfold C_multiply7_74
        rw [dR3]
        refine ⟨fun g => out (fun k hk k1 k2 => by rw [r3 (k - m) (by omega) (by omega)]; omega), fun g => ?_⟩
        rw [w32_id (x := (m : Int) + (t : Int)) (by omega) (by omega)]
        refine ⟨fun g2 => out (fun k hk k1 k2 => by omega), fun g2 _ _ _ _ s4 e4 => ?_⟩
        have t8 : t < 9 := by omega
        have mt : m + t < 9 := by omega
        subst e4
        refine ⟨t + 1, w32s (by omega), by omega, gfr_pa f3 rfl, fun k hk => ?_⟩
        rw [cpa_row, show ((m : Int) + (t : Int)).toNat = m + t by omega]
        by_cases ek : k = m + t
        · rw [if_pos ek]
          subst ek
          have y1 : cga s3 (a + 1) (m : Int) = P m := by show s3.2 _ ((m : Nat) : Int).toNat = _; rw [Int.toNat_natCast, f3.2 _ (by omega)]; exact slp_r hP (by omega)
          have y2 : cga s3 (b + 1) (t : Int) = R t := by show s3.2 _ ((t : Nat) : Int).toNat = _; rw [Int.toNat_natCast, f3.2 _ (by omega)]; exact slp_r hR (by omega)
          have y3 : cga s3 59 ((m : Int) + (t : Int)) = cvs P R (m + t) m := by
            show s3.2 _ ((m : Int) + (t : Int)).toNat = _
            rw [show ((m : Int) + (t : Int)).toNat = m + t by omega, z3 _ hk, if_neg (by omega)]
            omega
          rw [y1, y2, y3, if_pos (by omega), show m + t - m = t by omega]
          have b1 := prod_b (fP m (by omega)) (fR t t8)
          have b2 := cvs_b fP fR hk (m := m) (by omega)
          generalize P m * R t = u1 at b1 ⊢
          generalize cvs P R (m + t) m = u2 at b2 ⊢
          rw [w64_id (x := u1) (by omega) (by omega), w64_id (by omega) (by omega)]
        · rw [if_neg ek, z3 k hk]
          by_cases q : m ≤ k ∧ k < m + t
          · rw [if_pos q, if_pos (by omega)]
          · rw [if_neg q, if_neg (by omega)]
    · subst e2
      refine ⟨i + 1, w32s (by omega), by omega, gfr_pa f1 rfl, fun k hk => ?_⟩
      rw [cpa_row]
      by_cases ek : k = i
      · rw [if_pos (by omega)]
      · rw [if_neg (by omega)]; exact z1 k (by omega)
  unfold C_multiply7
  rw [show cgf s a 0 = s.1 a 0 from rfl, show cgf s b 0 = s.1 b 0 from rfl]
  refine ⟨fun c => m35 (fun i j a1 a2 a3 a4 => absurd (p3 i a1 (by omega)) a3), fun c => ⟨fun c2 => m35 (fun i j a1 a2 a3 a4 => absurd (r3 j a2 (by omega)) a4), fun c2 => ?_⟩⟩
  rw [w32_id (by omega) (by omega)]
  refine ⟨fun c3 => m35 (fun i j a1 a2 a3 a4 => ?_), fun c3 => fail_g h0 (by decide) (fun s1 b1 _ => h2 (Or.inl ⟨rfl, Or.inl ?_⟩) s1 b1)⟩
  · have q1 : ¬ (s.1 a 0 < (i : Int)) := fun z => a3 (p3 i a1 z)
    have q2 : ¬ (s.1 b 0 < (j : Int)) := fun z => a4 (r3 j a2 z)
    omega
  · exact ⟨(s.1 a 0).toNat, (s.1 b 0).toNat, by omega, by omega, p4 _ (by omega), r4 _ (by omega), by omega⟩
theorem multiply_bd {s : im_S} {a b : Nat} {w : Int} {e : Int × Int} {Q : im_S → Prop} (h : bdS s e) (hQ : ∀ s', bdS s' e → Q s') : C_multiply7 a b w s Q := by
  have m35 : C_multiply7_35 a b w s Q := by
    refine ⟨fun q => bdS q.2 e, h, ?_⟩
    rintro ⟨x, s1⟩ h1
    dsimp only at h1 ⊢
    refine ⟨fun _ => ⟨fun q => bdS q.2 e, h1, ?_⟩, fun _ _ s2 e2 => by subst e2; exact h1⟩
    rintro ⟨y, s2⟩ h2
    dsimp only at h2 ⊢
    refine ⟨fun _ => accept_b h2 hQ, fun _ => ⟨fun q => bdS q.2 e, h2, ?_⟩⟩
    rintro ⟨z, s3⟩ h3
    dsimp only at h3 ⊢
    exact ⟨fun _ => h3, fun _ => ⟨fun _ => h3, fun _ _ _ _ _ s4 e4 => by subst e4; exact h3⟩⟩
  exact ⟨fun _ => m35, fun _ => ⟨fun _ => m35, fun _ => ⟨fun _ => m35, fun _ => fail_bd h hQ⟩⟩⟩
