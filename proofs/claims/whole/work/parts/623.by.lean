/-! THE REFERENCE'S LONG NUMBERS: by -/
theorem mul_dd {a b : Int} (ha : 0 ≤ a ∧ a < 1000000000) (hb : 0 ≤ b ∧ b < 1000000000) : 0 ≤ a * b ∧ a * b ≤ 999999998000000001 := by
  have h1 : 0 ≤ a * b := Int.mul_nonneg ha.1 hb.1
  have h2 : a * b ≤ 999999999 * 999999999 := Int.mul_le_mul (by omega) (by omega) hb.1 (by decide)
  exact ⟨h1, by omega⟩
theorem sg_b (X : Int) : -1 ≤ sg X ∧ sg X ≤ 1 := by
  have := sg_c X; omega
theorem by_199 {s s1 : im_S} {x y X Y h : Int} {n m u : Nat} {Q : Int → im_S → Prop} (hx : num s1 x X) (hy : num s1 y Y) (hh : h = wgf s 24) (h0 : 0 ≤ h) (hr : h + n + m + 1 ≤ 684000) (i3 : ag h 684000 s s1) (hu : u ≤ n + m) (ht : u = 0 ∨ wga s1 597 (h + u) ≠ 0) (hz : ∀ i : Int, (u : Int) < i → i ≤ ((n + m : Nat) : Int) → wga s1 597 (h + i) = 0) (hd : dg s1 h (n + m)) (hv : dv s1 h (n + m) = X.natAbs * Y.natAbs) (hQ : ∀ s', st s s' → na s' h (X * Y) → wgf s' 24 = h + lim (X * Y) + 1 → Q h s') : W_by_199 x y h u s1 Q := by
  unfold W_by_199
  refine sgn_ok hx (sgn_ok hy ?_)
  have cx := sg_c X
  have cy := sg_c Y
  have ed : dv s1 h u = X.natAbs * Y.natAbs := by
    rw [← hv]
    have q := dv_z (s := s1) (x := h) (n := u) (j := n + m - u) (fun k a b => hz k a (by omega))
    rw [show u + (n + m - u) = n + m by omega] at q
    exact q.symm
  have ep : ((X.natAbs : Int) * Y.natAbs) = ((X * Y).natAbs : Int) := by rw [Int.natAbs_mul]; rfl
  have es : (sg X * sg Y < 0 ∧ X * Y ≤ 0) ∨ (0 ≤ sg X * sg Y ∧ 0 ≤ X * Y) := by
    rcases cx with ⟨a, b⟩ | ⟨a, b⟩ | ⟨a, b⟩ <;> rcases cy with ⟨c, d⟩ | ⟨c, d⟩ | ⟨c, d⟩ <;> rw [b, d]
    · right; subst a; exact ⟨by decide, by omega⟩
    · right; subst a; exact ⟨by decide, by omega⟩
    · right; subst a; exact ⟨by decide, by omega⟩
    · right; subst c; exact ⟨by decide, by omega⟩
    · right; exact ⟨by decide, Int.mul_nonneg (by omega) (by omega)⟩
    · left; exact ⟨by decide, Int.mul_nonpos_of_nonneg_of_nonpos (by omega) (by omega)⟩
    · right; subst c; exact ⟨by decide, by omega⟩
    · left; exact ⟨by decide, Int.mul_nonpos_of_nonpos_of_nonneg (by omega) (by omega)⟩
    · right; exact ⟨by decide, Int.mul_nonneg_of_nonpos_of_nonpos (by omega) (by omega)⟩
  have eb : -1 ≤ sg X * sg Y ∧ sg X * sg Y ≤ 1 := by
    rcases cx with ⟨a, b⟩ | ⟨a, b⟩ | ⟨a, b⟩ <;> rcases cy with ⟨c, d⟩ | ⟨c, d⟩ | ⟨c, d⟩ <;> rw [b, d] <;> decide
  rw [ep] at ed
  generalize X * Y = R at *
  generalize sg X * sg Y = g at *
  refine ⟨⟨by omega, by omega⟩, fun _ => ⟨by omega, by omega⟩, fun v hv => ⟨⟨h0, by omega⟩, fun s2 e2 => ⟨⟨by omega, by omega⟩, ⟨by omega, by omega⟩, fun s3 e3 => ?_⟩⟩⟩
  have ev : dv s2 h u = (R.natAbs : Int) := by
    rw [e2, dv_co (s := s1) (x := h) (fun k a b => wg_ne (by omega) (by omega) (by omega))]
    exact ed
  have nn : num s2 h R := by
    refine num_mk (n := u) h0 (by omega) ?_ ?_ (g < 0) ?_ ⟨fun c => by omega, fun c => by omega⟩
    · intro k a b
      rw [e2, wg_ne (by omega) (by omega) (by omega)]
      exact hd k a (by omega)
    · rcases ht with q | q
      · exact Or.inl q
      · by_cases q2 : u = 0
        · exact Or.inl q2
        · right
          rw [e2, wg_ne (by omega) (by omega) (by omega)]
          exact q
    · rw [e2, wg_same, hv]
      by_cases c : 0 ≤ g
      · exact Or.inr ⟨by omega, by rw [if_pos c]⟩
      · exact Or.inl ⟨by omega, by rw [if_neg c]⟩
  have el : lim R = u := by
    have z1 := nn.2.2.1
    rw [e2, wg_same, hv] at z1
    split at z1 <;> split at z1 <;> omega
  have tt : wgf s3 24 = h + u + 1 := by rw [e3]; exact wf_same
  have n3 : num s3 h R := by rw [e3]; exact num_co nn nn.1 nn.2.1 (fun _ _ _ => rfl)
  refine hQ s3 ⟨?_, by omega⟩ ⟨n3, Or.inl (by omega)⟩ (by omega)
  rw [e3, e2, ← hh]
  exact ag_pf (ag_pa i3 h0 (Int.le_refl _) (by omega)) (Or.inl rfl)
theorem by_176 {s s1 : im_S} {x y X Y h : Int} {n m : Nat} {Q : Int → im_S → Prop} (hx : num s1 x X) (hy : num s1 y Y) (hh : h = wgf s 24) (h0 : 0 ≤ h) (hr : h + n + m + 1 ≤ 684000) (i3 : ag h 684000 s s1) (hd : dg s1 h (n + m)) (hv : dv s1 h (n + m) = X.natAbs * Y.natAbs) (hQ : ∀ s', st s s' → na s' h (X * Y) → wgf s' 24 = h + lim (X * Y) + 1 → Q h s') : wloop (fun (K : Int × im_S → Prop) (a : Int × im_S) => W_by_176 K x y h a.1 a.2 Q) ((n : Int) + m, s1) := by
  refine ⟨fun a => ∃ u : Nat, a.1 = u ∧ u ≤ n + m ∧ a.2 = s1 ∧ ∀ i : Int, (u : Int) < i → i ≤ ((n + m : Nat) : Int) → wga s1 597 (h + i) = 0, fun a => a.1.toNat, ⟨n + m, by dsimp only; omega, by omega, rfl, fun i a b => by omega⟩, ?_⟩
  rintro ⟨k, s2⟩ ⟨u, i1, i2, i4, i5⟩
  dsimp only at i1 i2 i4 i5 ⊢
  subst i1 i4
  unfold W_by_176
  refine ⟨fun c => by_199 hx hy hh h0 hr i3 i2 (Or.inl (by omega)) i5 hd hv hQ, fun c => ⟨⟨by omega, by omega⟩, fun c2 => by_199 hx hy hh h0 hr i3 i2 (Or.inr c2) i5 hd hv hQ, fun c2 => ⟨⟨by omega, by omega⟩, ⟨u - 1, by dsimp only; omega, by omega, rfl, fun i a b => ?_⟩, by dsimp only; omega⟩⟩⟩
  by_cases e : i = u
  · rw [e]; exact c2
  · exact i5 i (by omega) b
theorem ar_b1 (D D' c c' o r w y P Q A x d PQ : Int) (h : D + c * PQ = A + x * P * d) (hw : w = x * y + o + c) (hr : r + 1000000000 * c' = w) (hD : D' = D + (r - o) * PQ) (hp : PQ = P * Q) : D' + c' * (PQ * 1000000000) = A + x * P * (d + y * Q) := by
  subst hp hD
  grind
theorem by_ka {s : im_S} {x y X Y : Int} {Q : Int → im_S → Prop} (hx : na s x X) (hy : na s y Y) (h0 : 0 ≤ wgf s 24) (hr : wgf s 24 + lim X + lim Y + 1 ≤ 684000) (hQ : ∀ s', st s s' → na s' (wgf s 24) (X * Y) → wgf s' 24 = wgf s 24 + lim (X * Y) + 1 → Q (wgf s 24) s') : W_by x y s Q := by
  unfold W_by
  refine limbs_ok hx.1 (limbs_ok hy.1 ?_)
  have hx0 := hx.1.1
  have hy0 := hy.1.1
  have hx1 := hx.1.2.1
  have hy1 := hy.1.2.1
  have hx2 := hx.2
  have hy2 := hy.2
  obtain ⟨n, hn⟩ : ∃ n, lim X = n := ⟨_, rfl⟩
  obtain ⟨m, hm⟩ : ∃ m, lim Y = m := ⟨_, rfl⟩
  obtain ⟨h, hh⟩ : ∃ h, wgf s 24 = h := ⟨_, rfl⟩
  rw [hh] at h0 hr hx2 hy2 hQ ⊢
  rw [hn] at hr hx1 hx2 ⊢
  rw [hm] at hr hy1 hy2 ⊢
  refine ⟨fun a => 0 ≤ a.1 ∧ a.1 ≤ n + m + 1 ∧ ag h 684000 s a.2 ∧ (∀ j : Int, 0 ≤ j → j < a.1 → wga a.2 597 (h + j) = 0), fun a => (n + m + 1 - a.1).toNat, ⟨Int.le_refl 0, by dsimp only; omega, ag_rfl, fun j a b => by dsimp only at b; omega⟩, ?_⟩
  rintro ⟨k, s1⟩ ⟨i1, i2, i3, i4⟩
  dsimp only at i1 i2 i3 i4 ⊢
  unfold W_by_22
  refine ⟨⟨by omega, by omega⟩, fun c => ?_, fun c => ⟨⟨by omega, by omega⟩, fun s2 e2 => ⟨⟨by omega, by omega⟩, ⟨by dsimp only; omega, by dsimp only; omega, by rw [e2]; exact ag_pa i3 (by omega) (by omega) (by omega), fun j a b => ?_⟩, by dsimp only; omega⟩⟩⟩
  · -- the outer loop
    refine ⟨fun a => ∃ j : Nat, a.1 = (j : Int) + 1 ∧ j ≤ n ∧ ag h 684000 s a.2 ∧ dg a.2 h (n + m) ∧ dv a.2 h (j + m) = dv s x j * dv s y m ∧ (∀ k : Int, ((j + m : Nat) : Int) < k → k ≤ ((n + m : Nat) : Int) → wga a.2 597 (h + k) = 0), fun a => (n + 1 - a.1).toNat, ⟨0, rfl, by omega, i3, fun i a b => by rw [i4 i (by omega) (by omega)]; exact ⟨by decide, by decide⟩, ?_, fun i a b => i4 i (by omega) (by omega)⟩, ?_⟩
    · show dv s1 h (0 + m) = 0 * _
      have z := dv_z (s := s1) (x := h) (n := 0) (j := m) (fun i a b => i4 i (by omega) (by omega))
      rw [z, Int.zero_mul]; rfl
    · rintro ⟨i0, s2⟩ ⟨j, j1, j2, j3, j4, j5, j6⟩
      dsimp only at j1 j2 j3 j4 j5 j6 ⊢
      subst j1
      unfold W_by_51
      refine ⟨fun c => ⟨⟨by omega, by omega⟩, ?_⟩, fun c => ?_⟩
      · have ej : j = n := by omega
        subst ej
        refine by_176 (s := s) (X := X) (Y := Y) (num_ag hx.1 j3 (by omega)) (num_ag hy.1 j3 (by omega)) hh.symm h0 (by omega) j3 j4 ?_ hQ
        rw [j5, ← hn, ← hm, hx.1.2.2.2.2, hy.1.2.2.2.2]
      · -- the inner loop
        have fx : wga s 597 (x + ((j : Int) + 1)) = wga s2 597 (x + ((j : Int) + 1)) := (ag_m j3 (by omega) (by omega)).symm
        have bx := hx.1.2.2.2.1 ((j : Int) + 1) (by omega) (by omega)
        refine ⟨fun a => ∃ k : Nat, a.2.1 = (k : Int) + 1 ∧ k ≤ m ∧ ag h 684000 s a.2.2 ∧ dg a.2.2 h (n + m) ∧ (0 ≤ a.1 ∧ a.1 < 1000000000) ∧ dv a.2.2 h (j + m) + a.1 * 1000000000 ^ (j + k) = dv s x j * dv s y m + wga s 597 (x + ((j : Int) + 1)) * 1000000000 ^ j * dv s y k ∧ (∀ k : Int, ((j + m : Nat) : Int) < k → k ≤ ((n + m : Nat) : Int) → wga a.2.2 597 (h + k) = 0), fun a => (m + 1 - a.2.1).toNat, ⟨0, rfl, by omega, j3, j4, ⟨(by decide : (0 : Int) ≤ 0), (by decide : (0 : Int) < 1000000000)⟩, ?_, j6⟩, ?_⟩
        · show dv s2 h (j + m) + 0 * _ = _ + _ * 0
          rw [j5]; omega
        · rintro ⟨carry, jj, s3⟩ ⟨k, k1, k2, k3, k4, k5, k6, k7⟩
          dsimp only at k1 k2 k3 k4 k5 k6 k7 ⊢
          subst k1
          unfold W_by_64
          refine ⟨fun c2 => ⟨⟨by omega, by omega⟩, ⟨by omega, by omega⟩, ⟨by omega, by omega⟩, fun s4 e4 => ⟨⟨by omega, by omega⟩, ⟨j + 1, by dsimp only; omega, by omega, ?_, ?_, ?_, ?_⟩, by dsimp only; omega⟩⟩, fun c2 => ?_⟩
          · rw [e4]; exact ag_pa k3 (by omega) (by omega) (by omega)
          · intro i a b
            rw [e4]
            by_cases e : i = (j : Int) + 1 + m
            · rw [show h + ((j : Int) + 1) + m = h + i by omega, wg_same]; exact k5
            · rw [wg_ne (by omega) (by omega) (by omega)]; exact k4 i a b
          · have ek : k = m := by omega
            subst ek
            rw [show j + 1 + k = (j + k) + 1 by omega]
            show dv s4 h (j + k) + wga s4 597 (h + (((j + k : Nat) : Int) + 1)) * 1000000000 ^ (j + k) = (dv s x j + wga s 597 (x + ((j : Int) + 1)) * 1000000000 ^ j) * dv s y k
            rw [e4, show h + ((j : Int) + 1) + k = h + (((j + k : Nat) : Int) + 1) by omega, wg_same, dv_co (s := s3) (x := h) (fun i a b => wg_ne (by omega) (by omega) (by omega)), k6, Int.add_mul]
          · intro i a b
            rw [e4, wg_ne (by omega) (by omega) (by omega)]
            exact k7 i (by omega) b
          · have fy : wga s3 597 (y + ((k : Int) + 1)) = wga s 597 (y + ((k : Int) + 1)) := ag_m k3 (by omega) (by omega)
            have fx3 : wga s3 597 (x + ((j : Int) + 1)) = wga s 597 (x + ((j : Int) + 1)) := ag_m k3 (by omega) (by omega)
            have byy := hy.1.2.2.2.1 ((k : Int) + 1) (by omega) (by omega)
            have bo := k4 (((j + k : Nat) : Int) + 1) (by omega) (by omega)
            rw [fx3, fy, show h + ((j : Int) + 1) + ((k : Int) + 1) - 1 = h + (((j + k : Nat) : Int) + 1) by omega]
            have bm := mul_dd bx byy
            obtain ⟨w, hw⟩ : ∃ w, w = wga s 597 (x + ((j : Int) + 1)) * wga s 597 (y + ((k : Int) + 1)) + wga s3 597 (h + (((j + k : Nat) : Int) + 1)) + carry := ⟨_, rfl⟩
            rw [← hw]
            have bw : 0 ≤ w ∧ w ≤ 999999999999999999 := by omega
            have e1 : w.tmod 1000000000 = w % 1000000000 := Int.tmod_eq_emod_of_nonneg bw.1
            have e2 : w.tdiv 1000000000 = w / 1000000000 := Int.tdiv_eq_ediv_of_nonneg bw.1
            rw [e1, e2]
            refine ⟨⟨by omega, by omega⟩, ⟨by omega, by omega⟩, ⟨by omega, by omega⟩, ⟨by omega, by omega⟩, ⟨by omega, by omega⟩, ⟨by omega, by omega⟩, ⟨by omega, by omega⟩, ⟨by omega, by omega⟩, ⟨by omega, by omega⟩, ⟨by omega, by omega⟩, fun s4 e4 => ⟨⟨by omega, by omega⟩, ⟨k + 1, by dsimp only; omega, by omega, ?_, ?_, ?_, ?_, ?_⟩, by dsimp only; omega⟩⟩
            · rw [e4]; exact ag_pa k3 (by omega) (by omega) (by omega)
            · intro i a b
              rw [e4]
              by_cases e : i = ((j + k : Nat) : Int) + 1
              · rw [e, wg_same]; omega
              · rw [wg_ne (by omega) (by omega) (by omega)]; exact k4 i a b
            · dsimp only; omega
            · dsimp only
              have z1 : dv s4 h (j + m) = dv s3 h (j + m) + (w % 1000000000 - wga s3 597 (h + (((j + k : Nat) : Int) + 1))) * 1000000000 ^ (j + k) := by
                rw [e4]; exact dv_st h0 (by omega)
              have z2 := ar_b1 _ _ carry (w / 1000000000) _ (w % 1000000000) w (wga s 597 (y + ((k : Int) + 1))) (1000000000 ^ j) (1000000000 ^ k) _ _ (dv s y k) _ k6 hw (Int.emod_add_mul_ediv w 1000000000) z1 (Int.pow_add _ _ _)
              rw [show j + (k + 1) = (j + k) + 1 by omega, Int.pow_succ]
              exact z2
            · intro i a b
              rw [e4, wg_ne (by omega) (by omega) (by omega)]
              exact k7 i a b
  · rw [e2]
    by_cases e : j = k
    · rw [e, wg_same]
    · rw [wg_ne (by omega) (by omega) (by omega)]
      exact i4 j a (by dsimp only at b; omega)
