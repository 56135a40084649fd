/-! THE REFERENCE'S LONG NUMBERS: divide -/
theorem num_nn {s s1 : im_S} {h w V : Int} {u n : Nat} (h0 : 0 ≤ h) (h1 : h + n < 700000) (hu : u ≤ n) (hd : dg s1 h n) (ht : u = 0 ∨ wga s1 597 (h + u) ≠ 0) (hz : ∀ i : Int, (u : Int) < i → i ≤ (n : Int) → wga s1 597 (h + i) = 0) (hv : dv s1 h n = V) (hs : s = wpa s1 597 h u) : num s h V ∧ lim V = u := by
  have ed : dv s1 h u = V := by
    rw [← hv]
    have q := dv_z (s := s1) (x := h) (n := u) (j := n - u) (fun k a b => hz k a (by omega))
    rw [show u + (n - u) = n by omega] at q
    exact q.symm
  have ev : dv s h u = V := by
    rw [hs, dv_co (s := s1) (x := h) (fun k a b => wg_ne (by omega) (by omega) (by omega))]
    exact ed
  have nn : num s h V := by
    refine num_mk (n := u) h0 (by omega) ?_ ?_ False (Or.inr ⟨fun q => q, by rw [hs, wg_same]⟩) ⟨fun c => absurd c (fun q => q), fun c => ev.symm⟩
    · intro k a b
      rw [hs, wg_ne (by omega) (by omega) (by omega)]
      exact hd k a (by omega)
    · rcases ht with q | q
      · exact Or.inl q
      · by_cases q2 : u = 0
        · exact Or.inl q2
        · right
          rw [hs, wg_ne (by omega) (by omega) (by omega)]
          exact q
  refine ⟨nn, ?_⟩
  have z1 := nn.2.2.1
  rw [hs, wg_same] at z1
  split at z1 <;> omega
theorem div_fin {s s4 : im_S} {T r A R : Int} {pl n : Nat} {Q : Int → im_S → Prop} (hT : T = wgf s 24) (h0 : 0 ≤ T) (hr : r = T + pl + 1) (hm : r + n + 2 ≤ 684000) (i1 : ag T 684000 s s4) (i2 : wgf s4 24 = r + n + 2) (i3 : dg s4 T pl) (i4 : dv s4 T pl = A) (i5 : dg s4 r n) (i6 : dv s4 r n = R) (hQ : ∀ s', st s s' → wgf s' 25 = T → na s' T A → na s' r R → T + lim A < r → wgf s' 24 = r + n + 2 → r + lim R < wgf s' 24 → Q r s') : wloop (fun (K : Int × im_S → Prop) (a : Int × im_S) => W_divide_191 K n T r a.1 a.2 Q) ((pl : Int), s4) := by
  have last : ∀ u : Nat, u ≤ pl → (u = 0 ∨ wga s4 597 (T + u) ≠ 0) → (∀ i : Int, (u : Int) < i → i ≤ (pl : Int) → wga s4 597 (T + i) = 0) → W_divide_215 n T r u s4 Q := by
    intro u hu ht hz
    unfold W_divide_215
    refine ⟨⟨h0, by omega⟩, fun s5 e5 => ?_⟩
    have nA := num_nn (s := s5) (s1 := s4) (w := 0) h0 (by omega) hu i3 ht hz i4 e5
    have d5 : dg s5 r n := by
      intro k a b
      rw [e5, wg_ne (by omega) (by omega) (by omega)]
      exact i5 k a b
    have v5 : dv s5 r n = R := by
      rw [e5, dv_co (s := s4) (x := r) (fun k a b => wg_ne (by omega) (by omega) (by omega))]
      exact i6
    have last2 : ∀ u : Nat, u ≤ n → (u = 0 ∨ wga s5 597 (r + u) ≠ 0) → (∀ i : Int, (u : Int) < i → i ≤ (n : Int) → wga s5 597 (r + i) = 0) → W_divide_252 T r u s5 Q := by
      intro u hu ht hz
      unfold W_divide_252
      refine ⟨⟨by omega, by omega⟩, fun s6 e6 s7 e7 => ?_⟩
      have nR := num_nn (s := s6) (s1 := s5) (w := 0) (by omega) (by omega) hu d5 ht hz v5 e6
      have a6 : ag r 684000 s5 s6 := by rw [e6]; exact ag_pa ag_rfl (by omega) (by omega) (by omega)
      have nA6 := num_ag nA.1 a6 (Or.inl (by omega))
      have tt : wgf s7 24 = r + n + 2 := by rw [e7, wf_ne (by decide), e6, e5]; exact i2
      have q25 : wgf s7 25 = T := by rw [e7]; exact wf_same
      have nA7 : num s7 T A := by rw [e7]; exact num_co nA6 nA6.1 nA6.2.1 (fun _ _ _ => rfl)
      have nR7 : num s7 r R := by rw [e7]; exact num_co nR.1 nR.1.1 nR.1.2.1 (fun _ _ _ => rfl)
      refine hQ s7 ⟨?_, by omega⟩ q25 ⟨nA7, Or.inl (by omega)⟩ ⟨nR7, Or.inl (by omega)⟩ (by omega) tt (by omega)
      rw [e7, e6, e5, ← hT]
      exact ag_pf (ag_pa (ag_pa i1 h0 (by omega) (by omega)) (by omega) (by omega) (by omega)) (Or.inr rfl)
    refine ⟨fun a => ∃ u : Nat, a.1 = u ∧ u ≤ n ∧ a.2 = s5 ∧ ∀ i : Int, (u : Int) < i → i ≤ (n : Int) → wga s5 597 (r + i) = 0, fun a => a.1.toNat, ⟨n, rfl, by omega, rfl, fun i a b => by omega⟩, ?_⟩
    rintro ⟨k, s2⟩ ⟨u, j1, j2, j4, j5⟩
    dsimp only at j1 j2 j4 j5 ⊢
    subst j1 j4
    unfold W_divide_228
    refine ⟨fun c => last2 u j2 (Or.inl (by omega)) j5, fun c => ⟨⟨by omega, by omega⟩, fun c2 => last2 u j2 (Or.inr c2) j5, fun c2 => ⟨⟨by omega, by omega⟩, ⟨u - 1, by dsimp only; omega, by omega, rfl, fun i a b => ?_⟩, by dsimp only; omega⟩⟩⟩
    by_cases e : i = u
    · rw [e]; exact c2
    · exact j5 i (by omega) b
  refine ⟨fun a => ∃ u : Nat, a.1 = u ∧ u ≤ pl ∧ a.2 = s4 ∧ ∀ i : Int, (u : Int) < i → i ≤ (pl : Int) → wga s4 597 (T + i) = 0, fun a => a.1.toNat, ⟨pl, rfl, by omega, rfl, fun i a b => by omega⟩, ?_⟩
  rintro ⟨k, s2⟩ ⟨u, j1, j2, j4, j5⟩
  dsimp only at j1 j2 j4 j5 ⊢
  subst j1 j4
  unfold W_divide_191
  refine ⟨fun c => last u j2 (Or.inl (by omega)) j5, fun c => ⟨⟨by omega, by omega⟩, fun c2 => last u j2 (Or.inr c2) j5, fun c2 => ⟨⟨by omega, by omega⟩, ⟨u - 1, by dsimp only; omega, by omega, rfl, fun i a b => ?_⟩, by dsimp only; omega⟩⟩⟩
  by_cases e : i = u
  · rw [e]; exact c2
  · exact j5 i (by omega) b
theorem ar_d1 {A W E Pu Pm Yv R : Int} (hR : R = A + W * Pu + E * (Pu * Pm)) (hA : 0 ≤ A) (hW : 0 ≤ W) (hE : 0 ≤ E) (hP : 1 ≤ Pu) (hPm : 1 ≤ Pm) (hlt : R < Yv * (Pu * 1000000000)) (hY : Yv * 1000000000 ≤ Pm) : E = 0 ∧ W < Yv * 1000000000 := by
  have w0 : 0 ≤ W * Pu := Int.mul_nonneg hW (by omega)
  have e1 : Yv * (Pu * 1000000000) = (Yv * 1000000000) * Pu := by grind
  have e2 : (Yv * 1000000000) * Pu ≤ Pm * Pu := Int.mul_le_mul_of_nonneg_right hY (by omega)
  have e3 : Pm * Pu = Pu * Pm := Int.mul_comm _ _
  have p0 : 0 ≤ Pu * Pm := Int.mul_nonneg (by omega) (by omega)
  have z : E = 0 := by
    by_cases c : E = 0
    · exact c
    · exfalso
      have z1 : 1 * (Pu * Pm) ≤ E * (Pu * Pm) := Int.mul_le_mul_of_nonneg_right (by omega) p0
      omega
  refine ⟨z, ?_⟩
  subst z
  have z4 : W * Pu < (Yv * 1000000000) * Pu := by omega
  exact Int.lt_of_mul_lt_mul_right z4 (by omega)
theorem ar_d2 (dq q Pu Yv A W R X : Int) (h : dq * Yv + R = X) (hR : R = A + W * Pu) : (dq + q * Pu) * Yv + (A + (W - q * Yv) * Pu) = X := by
  subst hR
  grind
theorem divide_ka {s : im_S} {x y X Y : Int} {Q : Int → im_S → Prop} (hx : na s x X) (hy : na s y Y) (hY : Y ≠ 0) (h0 : 0 ≤ wgf s 24) (hr : wgf s 24 + 2 * lim X + 4 ≤ 684000) (hQ : ∀ (r : Int) (s' : im_S), st s s' → wgf s' 25 = wgf s 24 → na s' (wgf s 24) ((X.natAbs : Int) / Y.natAbs) → na s' r ((X.natAbs : Int) % Y.natAbs) → wgf s 24 + lim ((X.natAbs : Int) / Y.natAbs) < r → wgf s' 24 ≤ wgf s 24 + 2 * lim X + 4 → r + lim ((X.natAbs : Int) % Y.natAbs) < wgf s' 24 → Q r s') : W_divide x y s Q := by
  unfold W_divide
  refine limbs_ok hx.1 (limbs_ok hy.1 ?_)
  have hx0 := hx.1.1
  have hy0 := hy.1.1
  have hx1 := hx.1.2.1
  have hy1 := hy.1.2.1
  have hx2 := hx.2
  have hy2 := hy.2
  have hmp := lim_pos hY
  obtain ⟨n, hn⟩ : ∃ n, lim X = n := ⟨_, rfl⟩
  obtain ⟨m, hm⟩ : ∃ m, lim Y = m := ⟨_, rfl⟩
  obtain ⟨T, hT⟩ : ∃ T, wgf s 24 = T := ⟨_, rfl⟩
  have hdx := hx.1.2.2.2.1
  have hdy := hy.1.2.2.2.1
  have hvx := hx.1.2.2.2.2
  have hvy := hy.1.2.2.2.2
  have bX : (X.natAbs : Int) < 1000000000 ^ n := nat_lt_pw (by omega)
  have bY : (Y.natAbs : Int) < 1000000000 ^ m := nat_lt_pw (by omega)
  have bY2 : (1000000000 : Int) ^ (m - 1) ≤ Y.natAbs := by
    have z := lim_ge (X := Y) (k := m - 1) (by omega)
    have z2 : ((1000000000 ^ (m - 1) : Nat) : Int) ≤ ((Y.natAbs : Nat) : Int) := Int.ofNat_le.2 z
    rw [Int.natCast_pow] at z2
    exact z2
  rw [hT] at h0 hr hx2 hy2 hQ ⊢
  rw [hn] at hr hx1 hx2 hdx hvx hQ ⊢
  rw [hm] at hy1 hy2 hdy hvy hmp ⊢
  refine ⟨⟨by omega, by omega⟩, ⟨by omega, by omega⟩, fun pl0 hpl => ?_⟩
  obtain ⟨pl, epl⟩ : ∃ pl : Nat, pl = n + 1 - m := ⟨_, rfl⟩
  have e0 : pl0 = pl := by rw [hpl]; split <;> omega
  subst e0
  obtain ⟨A, hA⟩ : ∃ A : Int, A = X.natAbs := ⟨_, rfl⟩
  obtain ⟨B, hB⟩ : ∃ B : Int, B = Y.natAbs := ⟨_, rfl⟩
  rw [← hA, ← hB] at hQ
  rw [← hA] at bX hvx
  rw [← hB] at bY bY2 hvy
  have bAB : A < B * 1000000000 ^ pl := by
    by_cases c : m ≤ n + 1
    · have z : (1000000000 : Int) ^ (m - 1) * 1000000000 ^ pl ≤ B * 1000000000 ^ pl := Int.mul_le_mul_of_nonneg_right bY2 (by have := pw_p pl; omega)
      rw [← Int.pow_add, show m - 1 + pl = n by omega] at z
      omega
    · have z0 : pl = 0 := by omega
      subst z0
      rw [Int.pow_zero, Int.mul_one]
      have z : (1000000000 : Int) ^ n ≤ 1000000000 ^ (m - 1) := by
        have q : (1000000000 : Nat) ^ n ≤ 1000000000 ^ (m - 1) := Nat.pow_le_pow_right (by decide) (by omega)
        have q2 := Int.ofNat_le.2 q
        rw [Int.natCast_pow, Int.natCast_pow] at q2
        exact q2
      omega
  have hA0 : 0 ≤ A := by omega
  have hB0 : 0 < B := by omega
  refine ⟨fun a => 0 ≤ a.1 ∧ a.1 ≤ pl + 1 ∧ ag T 684000 s a.2 ∧ (∀ j : Int, 0 ≤ j → j < a.1 → wga a.2 597 (T + j) = 0), fun a => (pl + 1 - a.1).toNat, ⟨Int.le_refl 0, by dsimp only; omega, ag_rfl, fun j a b => by dsimp only at b; omega⟩, ?_⟩
  rintro ⟨k, s1⟩ ⟨i1, i2, i3, i4⟩
  dsimp only at i1 i2 i3 i4 ⊢
  unfold W_divide_51
  refine ⟨fun c => ⟨⟨by omega, by omega⟩, ⟨by omega, by omega⟩, fun s2 e2 => ?_⟩, fun c => ⟨⟨by omega, by omega⟩, fun s2 e2 => ⟨⟨by omega, by omega⟩, ⟨by dsimp only; omega, by dsimp only; omega, by rw [e2]; exact ag_pa i3 (by omega) (by omega) (by omega), fun j a b => ?_⟩, by dsimp only; omega⟩⟩⟩
  · obtain ⟨r, hr2⟩ : ∃ r, r = T + pl + 1 := ⟨_, rfl⟩
    have t2 : wgf s2 24 = r := by rw [e2, hr2]; exact wf_same
    rw [t2]
    refine ⟨fun a => 1 ≤ a.1 ∧ a.1 ≤ n + 1 ∧ ag T 684000 s a.2 ∧ (∀ j : Int, 0 ≤ j → j ≤ pl → wga a.2 597 (T + j) = 0) ∧ (∀ j : Int, 1 ≤ j → j < a.1 → wga a.2 597 (r + j) = wga s 597 (x + j)), fun a => (n + 1 - a.1).toNat, ⟨Int.le_refl 1, by dsimp only; omega, by rw [e2]; exact ag_pf i3 (Or.inl rfl), fun j a b => by rw [e2]; exact i4 j a (by omega), fun j a b => by dsimp only at b; omega⟩, ?_⟩
    rintro ⟨k, s3⟩ ⟨j1, j2, j3, j4, j5⟩
    dsimp only at j1 j2 j3 j4 j5 ⊢
    unfold W_divide_95
    refine ⟨fun c => ⟨⟨by omega, by omega⟩, ⟨by omega, by omega⟩, fun s4 e4 => ⟨⟨by omega, by omega⟩, ⟨by omega, by omega⟩, fun s5 e5 => ?_⟩⟩, fun c => ⟨⟨by omega, by omega⟩, ⟨by omega, by omega⟩, fun s4 e4 => ⟨⟨by omega, by omega⟩, ⟨by dsimp only; omega, by dsimp only; omega, ?_, fun j a b => ?_, fun j a b => ?_⟩, by dsimp only; omega⟩⟩⟩
    · -- the digits of the quotient
      have ek : k = n + 1 := by omega
      refine ⟨fun a => ∃ t : Nat, a.1 = t ∧ t ≤ pl ∧ ag T 684000 s a.2 ∧ wgf a.2 24 = r + n + 2 ∧ dg a.2 r (n + 1) ∧ dg a.2 T pl ∧ (∀ i : Int, 1 ≤ i → i ≤ t → wga a.2 597 (T + i) = 0) ∧ dv a.2 T pl * B + dv a.2 r (n + 1) = A ∧ dv a.2 r (n + 1) < B * 1000000000 ^ t, fun a => a.1.toNat, ?_, ?_⟩
      · have g5 : ∀ i : Int, 0 ≤ i → i ≠ r + n + 1 → wga s5 597 i = wga s3 597 i := fun i a b => by rw [e5, e4]; exact wg_ne (by omega) a b
        have g6 : wga s5 597 (r + n + 1) = 0 := by rw [e5, e4]; exact wg_same
        have dr : dv s5 r (n + 1) = A := by
          show dv s5 r n + wga s5 597 (r + ((n : Int) + 1)) * 1000000000 ^ n = A
          rw [← Int.add_assoc, g6, dv_co (s := s) (x := x) (fun i a b => by rw [g5 _ (by omega) (by omega)]; exact j5 i a (by omega)), hvx]
          omega
        have dq : dv s5 T pl = 0 := by
          have z := dv_z (s := s5) (x := T) (n := 0) (j := pl) (fun i a b => by rw [g5 _ (by omega) (by omega)]; exact j4 i (by omega) (by omega))
          rw [Nat.zero_add] at z
          exact z
        refine ⟨pl, rfl, by omega, ?_, ?_, fun i a b => ?_, fun i a b => ?_, fun i a b => ?_, ?_, ?_⟩
        · rw [e5, e4]; exact ag_pf (ag_pa j3 (by omega) (by omega) (by omega)) (Or.inl rfl)
        · rw [e5]; exact wf_same
        · dsimp only
          by_cases ei : i = (n : Int) + 1
          · rw [ei, ← Int.add_assoc, g6]; exact ⟨by decide, by decide⟩
          · rw [g5 _ (by omega) (by omega), j5 i a (by omega)]
            exact hdx i a (by omega)
        · dsimp only
          rw [g5 _ (by omega) (by omega), j4 i (by omega) (by omega)]; exact ⟨by decide, by decide⟩
        · dsimp only
          rw [g5 _ (by omega) (by omega)]; exact j4 i (by omega) (by omega)
        · dsimp only
          rw [dr, dq]; omega
        · dsimp only
          rw [dr]; exact bAB
      · rintro ⟨t0, s6⟩ ⟨t, k1, k2, k3, k4, k5, k6, k7, k8, k9⟩
        dsimp only at k1 k2 k3 k4 k5 k6 k7 k8 k9 ⊢
        subst k1
        unfold W_divide_155
        have q0 := dv_b k6
        have r0 := dv_b k5
        have n6 := num_ag hy.1 k3 (by omega)
        refine ⟨fun c => ?_, fun c => ⟨⟨by omega, by omega⟩, ?_⟩⟩
        · have et : t = 0 := by omega
          subst et
          rw [Int.pow_zero, Int.mul_one] at k9
          have uq := (Int.ediv_emod_unique (a := A) (b := B) (r := dv s6 r (n + 1)) (q := dv s6 T pl) hB0).2 ⟨by rw [Int.mul_comm B]; omega, r0.1, k9⟩
          have z1 : 0 ≤ dv s6 T pl * B := Int.mul_nonneg q0.1 (by omega)
          have z2 : dv s6 r n + wga s6 597 (r + ((n : Int) + 1)) * 1000000000 ^ n = dv s6 r (n + 1) := rfl
          have z3 := dv_b (s := s6) (x := r) (n := n) (fun i a b => k5 i a (by omega))
          have z4 := k5 ((n : Int) + 1) (by omega) (by omega)
          have z5 : wga s6 597 (r + ((n : Int) + 1)) = 0 := by
            by_cases z : wga s6 597 (r + ((n : Int) + 1)) = 0
            · exact z
            · have z6 : 1 * (1000000000 : Int) ^ n ≤ wga s6 597 (r + ((n : Int) + 1)) * 1000000000 ^ n := Int.mul_le_mul_of_nonneg_right (by omega) (by have := pw_p n; omega)
              omega
          rw [z5] at z2
          refine div_fin (A := A / B) (R := A % B) hT.symm h0 hr2 (by omega) k3 k4 k6 uq.1.symm (fun i a b => k5 i a (by omega)) (by rw [uq.2]; omega) (fun s' b1 b2 b3 b4 b5 b6 b7 => hQ r s' b1 b2 b3 b4 b5 (by omega) b7)
        · obtain ⟨u, rfl⟩ : ∃ u, t = u + 1 := ⟨t - 1, by omega⟩
          have ew : r + ((u + 1 : Nat) : Int) - 1 = r + u := by omega
          obtain ⟨e, he⟩ : ∃ e, n + 1 = u + (m + 1) + e := ⟨n + 1 - (u + (m + 1)), by omega⟩
          have sp1 := dv_sp (s := s6) (x := r) (n := u + (m + 1)) (m := e)
          have sp2 := dv_sp (s := s6) (x := r) (n := u) (m := m + 1)
          have a1 := dv_b (s := s6) (x := r) (n := u) (fun i a b => k5 i a (by omega))
          have a2 : dg s6 (r + u) (m + 1) := fun i a b => by rw [Int.add_assoc]; exact k5 (u + i) (by omega) (by omega)
          have a3 := dv_b a2
          have a4 := dv_b (s := s6) (x := r + ((u + (m + 1) : Nat) : Int)) (n := e) (fun i a b => by rw [Int.add_assoc]; exact k5 _ (by omega) (by omega))
          have eR : dv s6 r (n + 1) = dv s6 r u + dv s6 (r + u) (m + 1) * 1000000000 ^ u + dv s6 (r + ((u + (m + 1) : Nat) : Int)) e * (1000000000 ^ u * 1000000000 ^ (m + 1)) := by
            rw [he, sp1, sp2, Int.pow_add]
          have bYm : B * 1000000000 ≤ 1000000000 ^ (m + 1) := by rw [Int.pow_succ]; omega
          rw [Int.pow_succ] at k9
          have d1 := ar_d1 (Yv := B) eR a1.1 a3.1 a4.1 (pw_p u) (pw_p (m + 1)) k9 bYm
          have vY : dv s6 y m = B := by
            have z := n6.2.2.2.2
            rw [hm, ← hB] at z
            exact z
          have dY : dg s6 y m := by
            have z := n6.2.2.2.1
            rw [hm] at z
            exact z
          have tY : 1 ≤ wga s6 597 (y + m) := by
            have z := num_top n6 (k := m - 1) (by omega)
            rw [show ((m - 1 : Nat) : Int) + 1 = (m : Int) by omega] at z
            exact z
          refine digit_ok (by omega) (by omega) ⟨by omega, by omega⟩ (by omega) hy0 (by omega) (by omega) (by rw [ew]; exact a2) dY (by omega) tY (by rw [ew, vY]; exact d1.2) (fun q s7 hq b1 b2 b3 b4 b5 => ⟨⟨by omega, by omega⟩, fun s8 e8 => ⟨⟨by omega, by omega⟩, ?_⟩⟩)
          rw [ew, vY] at b4
          rw [ew] at b3
          rw [ew, vY] at b5
          have f7 : ∀ i : Int, 0 ≤ i → (i < r + ((u + 1 : Nat) : Int) ∨ r + ((u + 1 : Nat) : Int) + m + 1 ≤ i) → wga s7 597 i = wga s6 597 i := fun i a b => ag_m b1 a b
          have f8 : ∀ i : Int, 0 ≤ i → i ≠ T + ((u + 1 : Nat) : Int) → wga s8 597 i = wga s7 597 i := fun i a b => by rw [e8]; exact wg_ne (by omega) a b
          have f9 : wga s8 597 (T + ((u + 1 : Nat) : Int)) = q := by rw [e8]; exact wg_same
          have vq : dv s8 T pl = dv s6 T pl + q * 1000000000 ^ u := by
            have z := dv_st (s := s7) (x := T) (w := q) h0 (n := pl) (k := u) (by omega)
            rw [show T + ((u : Int) + 1) = T + ((u + 1 : Nat) : Int) by omega, ← e8] at z
            rw [z, f7 _ (by omega) (Or.inl (by omega)), k7 _ (by omega) (by omega), dv_co (s := s6) (x := T) (fun i a b => f7 _ (by omega) (Or.inl (by omega))), Int.sub_zero]
          have vr : dv s8 r (n + 1) = dv s6 r u + (dv s6 (r + u) (m + 1) - q * B) * 1000000000 ^ u := by
            have sp3 := dv_sp (s := s8) (x := r) (n := u + (m + 1)) (m := e)
            have sp4 := dv_sp (s := s8) (x := r) (n := u) (m := m + 1)
            have c1 : dv s8 r u = dv s6 r u := dv_co (fun i a b => by rw [f8 _ (by omega) (by omega), f7 _ (by omega) (Or.inl (by omega))])
            have c2 : dv s8 (r + u) (m + 1) = dv s7 (r + u) (m + 1) := dv_co (fun i a b => f8 _ (by omega) (by omega))
            have c3 : dv s8 (r + ((u + (m + 1) : Nat) : Int)) e = dv s6 (r + ((u + (m + 1) : Nat) : Int)) e := dv_co (fun i a b => by rw [f8 _ (by omega) (by omega), f7 _ (by omega) (Or.inr (by omega))])
            rw [he, sp3, sp4, c1, c2, c3, b4, d1.1, Int.zero_mul, Int.add_zero]
          rw [d1.1, Int.zero_mul, Int.add_zero] at eR
          refine ⟨⟨u, by dsimp only; omega, by omega, ?_, ?_, fun i a b => ?_, fun i a b => ?_, fun i a b => ?_, ?_, ?_⟩, by dsimp only; omega⟩
          · rw [e8]
            exact ag_pa (ag_tr k3 (ag_mono b1 (by omega) (by omega))) (by omega) (by omega) (by omega)
          · rw [e8]
            exact b2.trans k4
          · dsimp only
            rw [f8 _ (by omega) (by omega)]
            by_cases z : i ≤ u ∨ (u : Int) + m + 1 < i
            · rw [f7 _ (by omega) (by omega)]
              exact k5 i a b
            · have z2 := b3 (i - u) (by omega) (by omega)
              rw [show r + (u : Int) + (i - u) = r + i by omega] at z2
              exact z2
          · dsimp only
            by_cases z : i = ((u + 1 : Nat) : Int)
            · rw [z, f9]; exact hq
            · rw [f8 _ (by omega) (by omega), f7 _ (by omega) (Or.inl (by omega))]
              exact k6 i a b
          · dsimp only
            rw [f8 _ (by omega) (by omega), f7 _ (by omega) (Or.inl (by omega))]
            exact k7 i a (by omega)
          · dsimp only
            rw [vq, vr]
            exact ar_d2 _ _ _ _ _ _ _ _ k8 eR
          · dsimp only
            rw [vr, ← b4]
            have z : dv s7 (r + u) (m + 1) * 1000000000 ^ u ≤ (B - 1) * 1000000000 ^ u := Int.mul_le_mul_of_nonneg_right (by omega) (by have := pw_p u; omega)
            rw [Int.sub_mul] at z
            omega
    · rw [e4]; exact ag_pa j3 (by omega) (by omega) (by omega)
    · dsimp only
      rw [e4, wg_ne (by omega) (by omega) (by omega)]
      exact j4 j a b
    · dsimp only at b ⊢
      rw [e4]
      by_cases e : j = k
      · rw [e, wg_same]
        exact ag_m j3 (by omega) (by omega)
      · rw [wg_ne (by omega) (by omega) (by omega)]
        exact j5 j a (by omega)
  · dsimp only at b ⊢
    rw [e2]
    by_cases e : j = k
    · rw [e, wg_same]
    · rw [wg_ne (by omega) (by omega) (by omega)]
      exact i4 j a (by omega)
