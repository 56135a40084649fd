/-! THE REFERENCE'S POLYNOMIALS: clean -/
theorem km_le {k n : Nat} {e : Int} (h : k ≤ n) (he : 0 ≤ e) : (k : Int) * e ≤ n * e := Int.mul_le_mul_of_nonneg_right (by omega) he
theorem km_s (k : Nat) (e : Int) : ((k + 1 : Nat) : Int) * e = k * e + e := by
  rw [show ((k + 1 : Nat) : Int) = (k : Int) + 1 by omega, Int.add_mul, Int.one_mul]
theorem st_row {s s' : im_S} {c : Nat} {i : Int} (h : st s s') (hc : c ≠ 597) : wga s' c i = wga s c i := ag_r h.1 hc
theorem en_old {s2 s3 : im_S} {f v Y : Int} {j k : Nat} (h : st s2 s3) (h0 : 0 ≤ f) (hj : j ≠ k) (hn : nm s2 (wga s2 599 (9 * f + j)) Y) : nm (wpa s3 599 (9 * f + k) v) (wga (wpa s3 599 (9 * f + k) v) 599 (9 * f + j)) Y := by
  rw [wg_ne (by omega) (by omega) (by omega), st_row h (by decide)]
  exact nm_row (by decide) (st_nm h hn)
theorem en_new {s3 : im_S} {f v Y : Int} {k : Nat} (hn : nm s3 v Y) : nm (wpa s3 599 (9 * f + k) v) (wga (wpa s3 599 (9 * f + k) v) 599 (9 * f + k)) Y := by
  rw [wg_same]
  exact nm_row (by decide) hn
def cr (l2 : Int) (P R : List Int) : Prop := R.length ≤ P.length ∧ (∀ n, R.length = n + 1 → pgt R n ≠ 0 ∧ (l2 ≠ 0 → 0 < pgt R n)) ∧ (R ≠ [] → ∀ d : Int, (∀ k, d ∣ pgt R k) → d ∣ 1) ∧ ∃ g : Int, g ≠ 0 ∧ (l2 = 0 → 0 < g) ∧ ∀ k, pgt P k = g * pgt R k
theorem clean_121 {s1 : im_S} {f g l4 G : Int} {n M : Nat} {P : List Int} {Q : im_S → Prop} (hf : 0 ≤ f ∧ f < 1200) (hn : n ≤ 9) (hd : wga s1 598 f = (n : Int) - 1) (hc : ∀ k : Nat, k < n → nm s1 (wga s1 599 (9 * f + k)) (pgt P k)) (hg : nm s1 g G) (hG : 0 < G) (hM : plb P M) (h4 : l4 = 0 ∨ l4 = 1) (h0 : 0 ≤ wgf s1 24) (hr : wgf s1 24 + 2 * (n * ((M : Int) + 1)) + 3 * M + 20 ≤ 684000) (hQ : ∀ s', pc f s1 s' → wga s' 598 f = (n : Int) - 1 → (∀ k : Nat, k < n → nm s' (wga s' 599 (9 * f + k)) ((if l4 = 0 then 1 else -1) * (pgt P k / G))) → wgf s' 24 ≤ wgf s1 24 + 2 * (n * ((M : Int) + 1)) → (l4 = 0 → wgf s' 24 ≤ wgf s1 24 + n * ((M : Int) + 1)) → Q s') : wloop (fun (K : Int × im_S → Prop) (a : Int × im_S) => W_clean_121 K f g l4 a.1 a.2 Q) (0, s1) := by
  refine ⟨fun a => ∃ k : Nat, a.1 = k ∧ k ≤ n ∧ pc f s1 a.2 ∧ wga a.2 598 f = (n : Int) - 1 ∧ (∀ j : Nat, j < k → nm a.2 (wga a.2 599 (9 * f + j)) ((if l4 = 0 then 1 else -1) * (pgt P j / G))) ∧ (∀ j : Nat, k ≤ j → j < n → nm a.2 (wga a.2 599 (9 * f + j)) (pgt P j)) ∧ wgf a.2 24 ≤ wgf s1 24 + 2 * (k * ((M : Int) + 1)) ∧ (l4 = 0 → wgf a.2 24 ≤ wgf s1 24 + k * ((M : Int) + 1)), fun a => ((n : Int) - a.1).toNat, ⟨0, rfl, by omega, pc_rfl, hd, fun j a => by omega, fun j _ a => hc j a, by dsimp only; omega, fun _ => by dsimp only; omega⟩, ?_⟩
  rintro ⟨k0, s2⟩ ⟨k, i1, i2, i3, i4, i5, i6, i7, i8⟩
  dsimp only at i1 i2 i3 i4 i5 i6 i7 i8 ⊢
  subst i1
  unfold W_clean_121
  have u0 : (0 : Int) ≤ (M : Int) + 1 := by omega
  have i32 := i3.2.2
  refine ⟨hf, fun c => ?_, fun c => ?_⟩
  · have e : k = n := by omega
    subst e
    exact hQ s2 i3 i4 i5 i7 i8
  · have hk : k < n := by omega
    have m1 := km_le (k := k + 1) (n := n) (by omega) u0
    have m2 := km_s k ((M : Int) + 1)
    have lk := hM k
    have lq : lim (pgt P k / G) ≤ M := Nat.le_trans (lim_mono (div_b hG)) lk
    have fin : ∀ (s3 : im_S) (v X : Int), st s2 s3 → nm s3 v X → X = (if l4 = 0 then 1 else -1) * (pgt P k / G) → wgf s3 24 ≤ wgf s2 24 + 2 * ((M : Int) + 1) → (l4 = 0 → wgf s3 24 ≤ wgf s2 24 + ((M : Int) + 1)) → W_clean_166 (fun b => (∃ k : Nat, b.1 = k ∧ k ≤ n ∧ pc f s1 b.2 ∧ wga b.2 598 f = (n : Int) - 1 ∧ (∀ j : Nat, j < k → nm b.2 (wga b.2 599 (9 * f + j)) ((if l4 = 0 then 1 else -1) * (pgt P j / G))) ∧ (∀ j : Nat, k ≤ j → j < n → nm b.2 (wga b.2 599 (9 * f + j)) (pgt P j)) ∧ wgf b.2 24 ≤ wgf s1 24 + 2 * (k * ((M : Int) + 1)) ∧ (l4 = 0 → wgf b.2 24 ≤ wgf s1 24 + k * ((M : Int) + 1))) ∧ ((n : Int) - b.1).toNat < ((n : Int) - k).toNat) f g l4 k f k v s3 Q := by
      intro s3 v X a3 n3 eX t3 t4
      unfold W_clean_166
      refine set_ok hf.1 hf.2 (by omega) (by omega) ⟨⟨by omega, by omega⟩, ⟨k + 1, by dsimp only; omega, by omega, ?_, ?_, fun j hj => ?_, fun j hj hj2 => ?_, ?_, fun c4 => ?_⟩, by dsimp only; omega⟩
      · exact pc_set (pc_tr i3 (st_pc a3)) hf.1 (by omega) (by omega)
      · dsimp only
        rw [wg_row (by decide), st_row a3 (by decide)]
        exact i4
      · dsimp only
        by_cases e : j = k
        · subst e
          rw [← eX]
          exact en_new n3
        · exact en_old a3 hf.1 e (i5 j (by omega))
      · dsimp only
        exact en_old a3 hf.1 (by omega) (i6 j (by omega) hj2)
      · dsimp only
        rw [wf_pa]
        omega
      · dsimp only
        rw [wf_pa]
        have := t4 c4
        have := i8 c4
        omega
    have ng := pc_nm i3 hg
    refine at_ok hf.1 hf.2 (by omega) (by omega) (over_ok (i6 k (Nat.le_refl _) hk) ng hG (by omega) (by omega) (fun s3 a3 n3 t3 => ⟨fun c4 => ?_, fun c4 => ?_⟩))
    · exact fin s3 _ _ a3 n3 (by rw [if_pos c4, Int.one_mul]) (by omega) (fun _ => by omega)
    · refine less_ok n3 (by omega) (by omega) (fun s4 a4 n4 t4 => ?_)
      exact fin s4 _ _ (st_tr a3 a4) n4 (by rw [if_neg c4]; omega) (by omega) (fun e => absurd e c4)
theorem clean_fin {P R : List Int} {n : Nat} {G l2 l4 : Int} (hR : R = pmk n (fun k => (if l4 = 0 then 1 else -1) * (pgt P k / G))) (hn : 1 ≤ n) (hn2 : n ≤ P.length) (hz : ∀ k, n ≤ k → pgt P k = 0) (hl : pgt P (n - 1) ≠ 0) (hG : 0 < G) (g1 : ∀ j, j < n → G ∣ pgt P j) (g2 : ∀ d : Int, (∀ j, j < n → d ∣ pgt P j) → d ∣ G) (h4 : l4 = 0 ∨ l4 = 1) (h24 : l2 = 0 → l4 = 0) (h25 : l2 ≠ 0 → (l4 = 0 ↔ 0 < pgt P (n - 1))) : cr l2 P R := by
  have hg : ∀ k, pgt R k = if k < n then (if l4 = 0 then 1 else -1) * (pgt P k / G) else 0 := fun k => by rw [hR]; exact pmk_gt _ _ _
  have hq : ∀ k, k < n → pgt P k = G * (pgt P k / G) := fun k hk => (Int.mul_ediv_cancel' (g1 k hk)).symm
  have hlen : R.length = n := by rw [hR]; exact pmk_len _ _
  refine ⟨by omega, fun m hm => ?_, fun _ d hd => ?_, (if l4 = 0 then 1 else -1) * G, ?_, fun c => ?_, fun k => ?_⟩
  · have em : m = n - 1 := by omega
    subst em
    have e := hq (n - 1) (by omega)
    rw [hg, if_pos (by omega)]
    have z : pgt P (n - 1) / G ≠ 0 := fun c => hl (by rw [e, c, Int.mul_zero])
    refine ⟨?_, fun c => ?_⟩
    · split <;> omega
    · have w := h25 c
      by_cases c4 : l4 = 0
      · rw [if_pos c4, Int.one_mul]
        have w2 := w.1 c4
        rw [e] at w2
        exact Int.pos_of_mul_pos_right w2 hG
      · rw [if_neg c4]
        have w2 : pgt P (n - 1) < 0 := by
          have : ¬ 0 < pgt P (n - 1) := fun q => c4 (w.2 q)
          omega
        have w3 : 0 < G * (-(pgt P (n - 1) / G)) := by rw [Int.mul_neg, ← e]; omega
        have w4 := Int.pos_of_mul_pos_right w3 hG
        omega
  · have z : d * G ∣ G := by
      refine g2 _ (fun j hj => ?_)
      have q := hd j
      rw [hg, if_pos hj] at q
      have q2 : d ∣ pgt P j / G := by
        by_cases c4 : l4 = 0
        · rw [if_pos c4, Int.one_mul] at q; exact q
        · rw [if_neg c4] at q
          have q3 : d ∣ -(pgt P j / G) := by rw [show -(pgt P j / G) = -1 * (pgt P j / G) by omega]; exact q
          exact (Int.dvd_neg).1 q3
      rw [hq j hj, Int.mul_comm d G]
      exact Int.mul_dvd_mul_left G q2
    obtain ⟨t, ht⟩ := z
    refine ⟨t, ?_⟩
    have e1 : G * (d * t) = G * 1 := by
      rw [Int.mul_one]
      rw [Int.mul_comm d G, Int.mul_assoc] at ht
      exact ht.symm
    exact (Int.eq_of_mul_eq_mul_left (by omega) e1).symm
  · split <;> omega
  · rw [if_pos (h24 c), Int.one_mul]; exact hG
  · rw [hg]
    by_cases c : k < n
    · rw [if_pos c]
      have e := hq k c
      generalize pgt P k / G = t at e
      rw [e]
      split
      · grind
      · grind
    · rw [if_neg c, hz k (by omega), Int.mul_zero]
theorem clean_40 {s : im_S} {f l2 : Int} {P : List Int} {n M : Nat} {Q : im_S → Prop} (hf : 0 ≤ f ∧ f < 1200) (hn : n ≤ 9) (hn2 : n ≤ P.length) (hz : ∀ k, n ≤ k → pgt P k = 0) (hl : 1 ≤ n → pgt P (n - 1) ≠ 0) (hd : wga s 598 f = (n : Int) - 1) (hc : ∀ k : Nat, k < n → nm s (wga s 599 (9 * f + k)) (pgt P k)) (hM : plb P M) (h2 : l2 = 0 ∨ l2 = 1) (h0 : 0 ≤ wgf s 24) (hr : wgf s 24 + 3 * (n * ((M : Int) + 1)) + 6 * M + 30 ≤ 684000) (hQ : ∀ s' R, pc f s s' → R.length ≤ 9 → wga s' 598 f = (R.length : Int) - 1 → (∀ k : Nat, k < R.length → nm s' (wga s' 599 (9 * f + k)) (pgt R k)) → cr l2 P R → wgf s' 24 ≤ wgf s 24 + 1 + 3 * (n * ((M : Int) + 1)) → (l2 = 0 → wgf s' 24 ≤ wgf s 24 + 1 + 2 * (n * ((M : Int) + 1))) → Q s') : W_clean_40 f l2 s Q := by
  unfold W_clean_40
  have u0 : (0 : Int) ≤ (M : Int) + 1 := by omega
  have m0 : (0 : Int) ≤ n * ((M : Int) + 1) := Int.mul_nonneg (by omega) u0
  refine ⟨hf, fun c => ?_, fun c => ?_⟩
  · have hn1 : 1 ≤ n := by omega
    have l0 := lim_zero
    refine whole_ok ⟨by decide, by decide⟩ h0 (by rw [l0]; omega) (fun s1 a1 n1 t1 => ?_)
    rw [l0] at t1
    refine ⟨fun a => ∃ (k : Nat) (G : Int), a.2.1 = k ∧ k ≤ n ∧ st s a.2.2 ∧ nm a.2.2 a.1 G ∧ 0 ≤ G ∧ lim G ≤ M ∧ (∀ j, j < k → G ∣ pgt P j) ∧ (∀ d : Int, (∀ j, j < k → d ∣ pgt P j) → d ∣ G) ∧ wgf a.2.2 24 ≤ wgf s 24 + 1 + k * ((M : Int) + 1), fun a => ((n : Int) - a.2.1).toNat, ⟨0, 0, rfl, by omega, a1, n1, by omega, by rw [l0]; omega, fun j hj => by omega, fun d _ => Int.dvd_zero d, by dsimp only; omega⟩, ?_⟩
    rintro ⟨g, k0, s2⟩ ⟨k, G, i1, i2, i3, i4, i5, i6, i7, i8, i9⟩
    dsimp only at i1 i2 i3 i4 i5 i6 i7 i8 i9 ⊢
    subst i1
    unfold W_clean_59
    have i32 := i3.2
    have d2 : wga s2 598 f = (n : Int) - 1 := by rw [st_row i3 (by decide)]; exact hd
    have c2 : ∀ j : Nat, j < n → nm s2 (wga s2 599 (9 * f + j)) (pgt P j) := fun j hj => by
      rw [st_row i3 (by decide)]; exact st_nm i3 (hc j hj)
    refine ⟨hf, fun c => ?_, fun c => ?_⟩
    · have ek : k = n := by omega
      subst ek
      have hl' := hl hn1
      have hG : 0 < G := by
        have z := i7 (k - 1) (by omega)
        rcases Int.lt_or_eq_of_le i5 with q | q
        · exact q
        · rw [← q] at z
          exact absurd (Int.zero_dvd.1 z) hl'
      have fin : ∀ l4 : Int, (l4 = 0 ∨ l4 = 1) → (l2 = 0 → l4 = 0) → (l2 ≠ 0 → (l4 = 0 ↔ 0 < pgt P (k - 1))) → W_clean_116 f g l4 s2 Q := by
        intro l4 h4 h5 h6
        unfold W_clean_116
        refine clean_121 hf hn d2 c2 i4 hG hM h4 (by omega) (by omega) (fun s' b1 b2 b3 b4 b5 => ?_)
        refine hQ s' (pmk k (fun k => (if l4 = 0 then 1 else -1) * (pgt P k / G))) (pc_tr (st_pc i3) b1) (by rw [pmk_len]; exact hn) (by rw [pmk_len]; exact b2) (fun j hj => ?_) (clean_fin rfl hn1 hn2 hz hl' hG i7 i8 h4 h5 h6) (by omega) (fun q => ?_)
        · rw [pmk_len] at hj
          rw [pmk_gt, if_pos hj]
          exact b3 j hj
        · have := b5 (h5 q)
          omega
      refine ⟨fun q => fin 0 (Or.inl rfl) (fun _ => rfl) (fun w => absurd q w), fun q => ⟨hf, ?_⟩⟩
      rw [d2]
      refine at_ok hf.1 hf.2 (by omega) (by omega) ?_
      have nk := c2 (k - 1) (by omega)
      rw [show ((k - 1 : Nat) : Int) = (k : Int) - 1 by omega] at nk
      refine sgn_ok nk.1 (fun v hv => ?_)
      have z := sg_c (pgt P (k - 1))
      refine fin v ?_ (fun w => absurd w q) (fun _ => ?_)
      · rw [hv]; split
        · exact Or.inl rfl
        · exact Or.inr rfl
      · rw [hv]
        constructor
        · intro w
          split at w
          · omega
          · omega
        · intro w
          rw [if_pos (by omega)]
    · have hk : k < n := by omega
      have m1 := km_le (k := k + 1) (n := n) (by omega) u0
      have m2 := km_s k ((M : Int) + 1)
      refine at_ok hf.1 hf.2 (by omega) (by omega) (gcd_ok i4 (c2 k hk) i6 (hM k) (by omega) (by omega) (fun s3 a3 n3 t3 l3 => ⟨⟨by omega, by omega⟩, ⟨k + 1, (Int.gcd G (pgt P k) : Int), by dsimp only; omega, by omega, st_tr i3 a3, n3, by omega, l3, fun j hj => ?_, fun d hd => ?_, by dsimp only; omega⟩, by dsimp only; omega⟩))
      · by_cases e : j = k
        · subst e; exact Int.gcd_dvd_right _ _
        · exact Int.dvd_trans (Int.gcd_dvd_left _ _) (i7 j (by omega))
      · exact Int.dvd_coe_gcd (i8 d (fun j hj => hd j (by omega))) (hd k (by omega))
  · have e : n = 0 := by omega
    subst e
    refine hQ s [] pc_rfl (by decide) (by rw [hd]; rfl) (fun k hk => absurd hk (Nat.not_lt_zero k)) ⟨by omega, fun m hm => by simp at hm, fun q => absurd rfl q, 1, by decide, fun _ => by decide, fun k => ?_⟩ (by omega) (fun _ => by omega)
    rw [hz k (by omega)]
    rfl
theorem clean_ok {s : im_S} {f l2 : Int} {P : List Int} {M : Nat} {Q : im_S → Prop} (hp : pol s f P) (hM : plb P M) (h2 : l2 = 0 ∨ l2 = 1) (h0 : 0 ≤ wgf s 24) (hr : wgf s 24 + 3 * (P.length * ((M : Int) + 1)) + 6 * M + 30 ≤ 684000) (hQ : ∀ s' R, pc f s s' → pol s' f R → cr l2 P R → wgf s' 24 ≤ wgf s 24 + 1 + 3 * (P.length * ((M : Int) + 1)) → (l2 = 0 → wgf s' 24 ≤ wgf s 24 + 1 + 2 * (P.length * ((M : Int) + 1))) → Q s') : W_clean f l2 s Q := by
  unfold W_clean
  obtain ⟨p1, p2, p3, p4, p5, p6⟩ := hp
  have hf : 0 ≤ f ∧ f < 1200 := ⟨p1, by omega⟩
  have u0 : (0 : Int) ≤ (M : Int) + 1 := by omega
  refine ⟨fun a => ∃ n : Nat, n ≤ P.length ∧ (∀ k, n ≤ k → pgt P k = 0) ∧ pc f s a ∧ wga a 598 f = (n : Int) - 1 ∧ (∀ k : Nat, k < n → nm a (wga a 599 (9 * f + k)) (pgt P k)) ∧ wgf a 24 = wgf s 24, fun a => (wga a 598 f + 1).toNat, ⟨P.length, Nat.le_refl _, fun k hk => pgt_hi P k hk, pc_rfl, p5, p6, rfl⟩, ?_⟩
  rintro s1 ⟨n, i1, i2, i3, i4, i5, i6⟩
  have m1 := km_le i1 u0
  have goal40 : (1 ≤ n → pgt P (n - 1) ≠ 0) → W_clean_40 f l2 s1 Q := by
    intro hl
    refine clean_40 hf (by omega) i1 i2 hl i4 i5 hM h2 (by omega) (by omega) (fun s' R b1 b2 b3 b4 b5 b6 b7 => ?_)
    have z1 := pc_28 b1
    have z2 := pc_28 i3
    refine hQ s' R (pc_tr i3 b1) ⟨p1, by omega, by omega, b2, b3, b4⟩ b5 (by omega) (fun q => ?_)
    have := b7 q
    omega
  unfold W_clean_0
  refine ⟨hf, fun c => goal40 (fun q => by omega), fun c => ⟨hf, ?_⟩⟩
  have hn1 : 1 ≤ n := by omega
  have nk := i5 (n - 1) (by omega)
  rw [show ((n - 1 : Nat) : Int) = (n : Int) - 1 by omega] at nk
  rw [i4]
  refine at_ok hf.1 hf.2 (by omega) (by omega) (sgn_ok nk.1 ⟨fun c2 => goal40 (fun _ q => c2 (sg_0.2 q)), fun c2 => ⟨hf, ⟨by omega, by omega⟩, hf, fun s2 e2 => ?_⟩⟩)
  have z0 : pgt P (n - 1) = 0 := sg_0.1 c2
  have d2 : wga s2 598 f = (n : Int) - 1 - 1 := by rw [e2, wg_same, i4]
  refine ⟨⟨n - 1, by omega, fun k hk => ?_, ?_, by omega, fun k hk => ?_, ?_⟩, by dsimp only; omega⟩
  · by_cases e : k = n - 1
    · rw [e]; exact z0
    · exact i2 k (by omega)
  · rw [e2]; exact pc_deg i3 p1
  · rw [e2, wg_row (by decide)]
    exact nm_row (by decide) (i5 k (by omega))
  · rw [e2, wf_pa]; exact i6
