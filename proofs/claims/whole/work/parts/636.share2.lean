/-! THE REFERENCE'S POLYNOMIALS: share, its walk -/
theorem en_oth {s2 s3 : im_S} {f y v Y : Int} {j k : Nat} (h : st s2 s3) (h0 : 0 ≤ f) (hy : 0 ≤ y) (hf : y ≠ f) (hj : j ≤ 8) (hk : k ≤ 8) (hn : nm s2 (wga s2 599 (9 * y + j)) Y) : nm (wpa s3 599 (9 * f + k) v) (wga (wpa s3 599 (9 * f + k) v) 599 (9 * y + j)) Y := by
  rw [wg_ne (by omega) (by omega) (by omega), st_row h (by decide)]
  exact nm_row (by decide) (st_nm h hn)
theorem share_180 {s1 : im_S} {K140 : Int × im_S → Prop} {g z l4 l5 l8 L : Int} {F G : List Int} {n m d j t M N W : Nat} {Q : Int → im_S → Prop} (hgz : g ≠ z) (hz : 0 ≤ z ∧ z < 1200) (hn : n ≤ 8) (hg : pol s1 g G) (hG : G.length = m + 1) (hF : F.length = n + 1) (hL : L = pgt G m) (ht : t + m = n + 1) (hd : d + 1 + j = t) (hM : plb F M) (hN : plb G N) (hW : M + t * (N + 1) ≤ W) (hr : ∀ k : Nat, k ≤ n → nm s1 (wga s1 599 (9 * z + k)) (L ^ (d + 1) * shf F G L n m j k)) (h8 : nm s1 l8 (L ^ d * shf F G L n m j (n - j))) (h0 : 0 ≤ wgf s1 24) (hm : wgf s1 24 + (m + 1) * (2 * ((W : Int) + 1)) + 2 * W + 20 ≤ 684000) (hK : ∀ s', pc z s1 s' → (∀ k : Nat, k ≤ n → nm s' (wga s' 599 (9 * z + k)) (L ^ d * shf F G L n m (j + 1) k)) → wgf s' 24 ≤ wgf s1 24 + (m + 1) * (2 * ((W : Int) + 1)) → K140 ((d : Int) - 1, s')) : wloop (fun (K : Int × im_S → Prop) (a : Int × im_S) => W_share_180 K140 K g z l4 l5 d l8 a.1 a.2 Q) (0, s1) := by
  obtain ⟨g1, g2, g3, g4, g5, g6⟩ := hg
  have hgb : 0 ≤ g ∧ g < 1200 := ⟨g1, by omega⟩
  have u0 : (0 : Int) ≤ 2 * ((W : Int) + 1) := by omega
  have hLN : lim L ≤ N := by rw [hL]; exact hN m
  have nj : n - j - m = d := by omega
  have new : ∀ i : Nat, L ^ (d + 1) * shf F G L n m j (d + i) - L ^ d * shf F G L n m j (n - j) * pgt G i = L ^ d * shf F G L n m (j + 1) (d + i) := by
    intro i
    show _ = L ^ d * (L * shf F G L n m j (d + i) - (if d + i < n - j - m then 0 else shf F G L n m j (n - j) * pgt G (d + i - (n - j - m))))
    rw [nj, if_neg (by omega), show d + i - d = i by omega, Int.pow_succ]
    grind
  have same : ∀ k : Nat, k < d ∨ d + m < k → L ^ (d + 1) * shf F G L n m j k = L ^ d * shf F G L n m (j + 1) k := by
    intro k hk
    show _ = L ^ d * (L * shf F G L n m j k - (if k < n - j - m then 0 else shf F G L n m j (n - j) * pgt G (k - (n - j - m))))
    rw [nj, Int.pow_succ]
    rcases hk with q | q
    · rw [if_pos q]; grind
    · rw [if_neg (by omega), pgt_hi G (k - d) (by omega)]; grind
  refine ⟨fun a => ∃ i : Nat, a.1 = i ∧ i ≤ m + 1 ∧ pc z s1 a.2 ∧ (∀ k : Nat, k ≤ n → k < d ∨ d + i ≤ k → nm a.2 (wga a.2 599 (9 * z + k)) (L ^ (d + 1) * shf F G L n m j k)) ∧ (∀ k : Nat, d ≤ k → k < d + i → nm a.2 (wga a.2 599 (9 * z + k)) (L ^ d * shf F G L n m (j + 1) k)) ∧ wgf a.2 24 ≤ wgf s1 24 + i * (2 * ((W : Int) + 1)), fun a => ((m : Int) + 1 - a.1).toNat, ⟨0, rfl, by omega, pc_rfl, fun k hk _ => hr k hk, fun k q1 q2 => by omega, by dsimp only; omega⟩, ?_⟩
  rintro ⟨i0, s2⟩ ⟨i, i1, i2, i3, i4, i5, i6⟩
  dsimp only at i1 i2 i3 i4 i5 i6 ⊢
  subst i1
  unfold W_share_180
  have dg : wga s2 598 g = (m : Int) := by rw [pc_d i3 g1 hgz, g5, hG]; omega
  have i32 := i3.2.2
  refine ⟨hgb, fun c => ⟨⟨by omega, by omega⟩, ?_⟩, fun c => ?_⟩
  · have ei : i = m + 1 := by omega
    subst ei
    refine hK s2 i3 (fun k hk => ?_) i6
    by_cases q : d ≤ k ∧ k < d + (m + 1)
    · exact i5 k q.1 q.2
    · rw [← same k (by omega)]
      exact i4 k hk (by omega)
  · have hi : i < m + 1 := by omega
    have m1 := km_le (k := i + 1) (n := m + 1) (by omega) u0
    have m2 := km_s i (2 * ((W : Int) + 1))
    rw [show (((m + 1 : Nat) : Int)) = (m : Int) + 1 by omega] at m1
    have n8 := pc_nm i3 h8
    have nr : nm s2 (wga s2 599 (9 * z + ((d : Int) + i))) (L ^ (d + 1) * shf F G L n m j (d + i)) := by
      rw [show (d : Int) + i = ((d + i : Nat) : Int) by omega]
      exact i4 (d + i) (by omega) (by omega)
    have ng : nm s2 (wga s2 599 (9 * g + i)) (pgt G i) := by
      rw [pc_p i3 (by omega) (by omega)]
      exact pc_nm i3 (g6 i (by omega))
    have l1 := shf_lb2 (k := d + i) (n := n) (m := m) hM hN hLN hW (show d + 1 + j ≤ t by omega)
    have l2 := shf_lb2 (k := n - j) (n := n) (m := m) hM hN hLN hW (show d + j ≤ t by omega)
    have l3 := shf_lb2 (k := d + i) (n := n) (m := m) hM hN hLN hW (show d + (j + 1) ≤ t by omega)
    rw [show t - (d + j) = 1 by omega, Nat.one_mul] at l2
    have l4' := hN i
    have l5' := lim_mul (L ^ d * shf F G L n m j (n - j)) (pgt G i)
    refine ⟨⟨by omega, by omega⟩, at_ok hz.1 hz.2 (by omega) (by omega) (at_ok hgb.1 hgb.2 (by omega) (by omega) (by_ok n8 ng (by omega) (by omega) (fun s3 a3 n3 t3 => minus_ok (st_nm a3 nr) n3 (by omega) (by omega) (fun s4 a4 n4 t4 => ?_))))⟩
    rw [new i] at n4 t4
    rw [show (d : Int) + i = ((d + i : Nat) : Int) by omega]
    have a34 := st_tr a3 a4
    refine set_ok hz.1 hz.2 (by omega) (by omega) ⟨⟨by omega, by omega⟩, ⟨i + 1, by dsimp only; omega, by omega, ?_, fun k q1 q2 => ?_, fun k q1 q2 => ?_, ?_⟩, by dsimp only; omega⟩
    · exact pc_set (pc_tr i3 (st_pc a34)) hz.1 (by omega) (by omega)
    · exact en_old a34 hz.1 (by omega) (i4 k q1 (by omega))
    · dsimp only
      by_cases q : k = d + i
      · subst q; exact en_new n4
      · exact en_old a34 hz.1 q (i5 k q1 (by omega))
    · dsimp only; rw [wf_pa]; omega
theorem share_140 {s s1 : im_S} {g z l5 L : Int} {F G : List Int} {n m t M N W : Nat} {Q : Int → im_S → Prop} (hs : ps s s1) (hg0 : pol s g G) (hz : z = wgf s 28) (hz1 : z + 2 ≤ 1200) (hz2 : wgf s1 28 = z + 2) (hn : n ≤ 8) (hG : G.length = m + 1) (hF : F.length = n + 1) (hL : L = pgt G m) (hL0 : 0 < L) (ht : t + m = n + 1) (hM : plb F M) (hN : plb G N) (hW : M + t * (N + 1) ≤ W) (hy : wga s1 598 (z + 1) = (t : Int) - 1) (hr : ∀ k : Nat, k ≤ n → nm s1 (wga s1 599 (9 * z + k)) (L ^ t * shf F G L n m 0 k)) (h5 : nm s1 l5 L) (h0 : 0 ≤ wgf s1 24) (hm : wgf s1 24 + t * ((2 * (m : Int) + 3) * ((W : Int) + 1)) + 3 * (t * ((W : Int) + 1)) + 6 * W + 40 ≤ 684000) (hQ : ∀ s' R, ps s s' → wgf s' 28 = z + 2 → pol s' (z + 1) R → cr 1 (shq F G) R → wgf s' 24 ≤ wgf s1 24 + 1 + t * ((2 * (m : Int) + 3) * ((W : Int) + 1)) + 3 * (t * ((W : Int) + 1)) → Q (z + 1) s') : wloop (fun (K : Int × im_S → Prop) (a : Int × im_S) => W_share_140 K g z (z + 1) l5 a.1 a.2 Q) ((t : Int) - 1, s1) := by
  have g1 := hg0.1
  have g2 := hg0.2.1
  have hgb : 0 ≤ g ∧ g < 1200 := ⟨g1, by omega⟩
  have hzb : 0 ≤ z ∧ z < 1200 := ⟨by omega, by omega⟩
  have hyb : 0 ≤ z + 1 ∧ z + 1 < 1200 := ⟨by omega, by omega⟩
  have w0 : (0 : Int) ≤ (W : Int) + 1 := by omega
  have hLN : lim L ≤ N := by rw [hL]; exact hN m
  obtain ⟨e1, he1⟩ : ∃ e1, e1 = (2 * (m : Int) + 3) * ((W : Int) + 1) := ⟨_, rfl⟩
  have e1' : e1 = (m + 1) * (2 * ((W : Int) + 1)) + ((W : Int) + 1) := by rw [he1]; grind
  have mw : 0 ≤ ((m : Int) + 1) * (2 * ((W : Int) + 1)) := Int.mul_nonneg (by omega) (by omega)
  have e10 : 0 ≤ e1 := by omega
  rw [← he1] at hm hQ
  have t0 : 0 ≤ (t : Int) * ((W : Int) + 1) := Int.mul_nonneg (by omega) w0
  refine ⟨fun a => ∃ j : Nat, a.1 = (t : Int) - 1 - j ∧ j ≤ t ∧ ps s a.2 ∧ wgf a.2 28 = z + 2 ∧ wga a.2 598 (z + 1) = (t : Int) - 1 ∧ (∀ k : Nat, k ≤ n → nm a.2 (wga a.2 599 (9 * z + k)) (L ^ (t - j) * shf F G L n m j k)) ∧ (∀ i : Nat, i < j → nm a.2 (wga a.2 599 (9 * (z + 1) + ((t - 1 - i : Nat) : Int))) (L ^ (t - 1 - i) * shf F G L n m i (n - i))) ∧ nm a.2 l5 L ∧ wgf s1 24 ≤ wgf a.2 24 ∧ wgf a.2 24 ≤ wgf s1 24 + j * e1, fun a => (a.1 + 1).toNat, ⟨0, by dsimp only; omega, by omega, hs, hz2, hy, hr, fun i hi => by omega, h5, Int.le_refl _, by dsimp only; omega⟩, ?_⟩
  rintro ⟨d0, s2⟩ ⟨j, i1, i2, i3, i4, i5, i6, i7, i8, i9, i10⟩
  dsimp only at i1 i2 i3 i4 i5 i6 i7 i8 i9 i10 ⊢
  unfold W_share_140
  have pg := ps_pol i3 (by omega) hg0
  have dg : wga s2 598 g = (m : Int) := by rw [pg.2.2.2.2.1, hG]; omega
  refine ⟨fun c => ?_, fun c => ?_⟩
  · have ej : j = t := by omega
    subst ej
    have py : pol s2 (z + 1) (shq F G) := by
      have ql : (shq F G).length = j := by
        unfold shq
        rw [pmk_len]; omega
      refine ⟨by omega, by omega, by omega, by omega, by rw [ql]; exact i5, fun k hk => ?_⟩
      rw [ql] at hk
      unfold shq
      rw [pmk_gt, if_pos (by omega), show G.length - 1 = m by omega, ← hL, show F.length - 1 = n by omega, show F.length - G.length - k = j - 1 - k by omega, show k + m = n - (j - 1 - k) by omega]
      have z1 := i7 (j - 1 - k) (by omega)
      rw [show j - 1 - (j - 1 - k) = k by omega] at z1
      exact z1
    have ql : (shq F G).length = j := by
      unfold shq
      rw [pmk_len]; omega
    have lbq : plb (shq F G) W := by
      unfold shq
      refine pmk_lb (fun k hk => ?_)
      rw [show G.length - 1 = m by omega, ← hL]
      have z1 := shf_lb2 (F := F) (G := G) (L := L) (n := F.length - 1) (m := m) (a := k) (j := F.length - G.length - k) (k := k + m) hM hN hLN hW (by omega)
      omega
    refine clean_ok py lbq (Or.inr rfl) (by omega) (by rw [ql]; omega) (fun s' R c1 c2 c3 c4 c5 => ?_)
    rw [ql] at c4
    have c28 := pc_28 c1
    exact hQ s' R (pc_ps i3 (by omega) c1) (by omega) c2 c3 (by omega)
  · obtain ⟨d, hd⟩ : ∃ d, d + 1 + j = t := ⟨t - 1 - j, by omega⟩
    have ed : d0 = (d : Int) := by omega
    subst ed
    have m1 := km_le (k := j + 1) (n := t) (by omega) e10
    have m2 := km_s j e1
    have nx := i6 (n - j) (by omega)
    rw [show t - j = d + 1 by omega] at i6 nx
    have l1 := shf_lb2 (k := n - j) (n := n) (m := m) hM hN hLN hW (show d + 1 + j ≤ t by omega)
    have l2 := shf_lb2 (k := n - j) (n := n) (m := m) hM hN hLN hW (show d + j ≤ t by omega)
    have ex : L ^ (d + 1) * shf F G L n m j (n - j) / L = L ^ d * shf F G L n m j (n - j) := by
      rw [Int.pow_succ, Int.mul_comm (L ^ d) L, Int.mul_assoc]
      exact Int.mul_ediv_cancel_left _ (by omega)
    refine ⟨hgb, ⟨by omega, by omega⟩, ?_⟩
    rw [dg, show (d : Int) + m = ((n - j : Nat) : Int) by omega]
    refine at_ok hzb.1 hzb.2 (by omega) (by omega) (over_ok nx i8 hL0 (by omega) (by omega) (fun s3 a3 n3 t3 => ?_))
    rw [ex] at n3 t3
    have a32 := a3.2
    refine set_ok hyb.1 hyb.2 (by omega) (by omega) ?_
    have ps4 : ps s (wpa s3 599 (9 * (z + 1) + (d : Int)) (wgf s2 24)) := pc_ps (ps_tr i3 (st_ps a3)) (f := z + 1) (by omega) (pc_set pc_rfl hyb.1 (by omega) (by omega))
    have r4 : ∀ k : Nat, k ≤ n → nm (wpa s3 599 (9 * (z + 1) + (d : Int)) (wgf s2 24)) (wga (wpa s3 599 (9 * (z + 1) + (d : Int)) (wgf s2 24)) 599 (9 * z + k)) (L ^ (d + 1) * shf F G L n m j k) := fun k hk => en_oth a3 hyb.1 hzb.1 (by omega) (by omega) (by omega) (i6 k hk)
    have s28 : wgf (wpa s3 599 (9 * (z + 1) + (d : Int)) (wgf s2 24)) 28 = z + 2 := by rw [wf_pa, st_28 a3]; exact i4
    have s24 : wgf (wpa s3 599 (9 * (z + 1) + (d : Int)) (wgf s2 24)) 24 = wgf s3 24 := wf_pa
    have q4 : ∀ i : Nat, i < j + 1 → nm (wpa s3 599 (9 * (z + 1) + (d : Int)) (wgf s2 24)) (wga (wpa s3 599 (9 * (z + 1) + (d : Int)) (wgf s2 24)) 599 (9 * (z + 1) + ((t - 1 - i : Nat) : Int))) (L ^ (t - 1 - i) * shf F G L n m i (n - i)) := by
      intro i hi
      by_cases q : i = j
      · subst q
        rw [show t - 1 - i = d by omega]
        exact en_new n3
      · exact en_old a3 hyb.1 (by omega) (i7 i (by omega))
    have d4 : wga (wpa s3 599 (9 * (z + 1) + (d : Int)) (wgf s2 24)) 598 (z + 1) = (t : Int) - 1 := by rw [wg_row (by decide), st_row a3 (by decide)]; exact i5
    have n5 : nm (wpa s3 599 (9 * (z + 1) + (d : Int)) (wgf s2 24)) l5 L := nm_row (by decide) (st_nm a3 i8)
    have n8 : nm (wpa s3 599 (9 * (z + 1) + (d : Int)) (wgf s2 24)) (wgf s2 24) (L ^ d * shf F G L n m j (n - j)) := nm_row (by decide) n3
    generalize wpa s3 599 (9 * (z + 1) + (d : Int)) (wgf s2 24) = s4 at ps4 r4 s28 s24 q4 d4 n5 n8 ⊢
    have pg4 : pol s4 g G := ps_pol ps4 (by omega) hg0
    refine share_180 (M := M) (N := N) (W := W) (t := t) (by omega) hzb hn pg4 hG hF hL ht hd hM hN hW r4 n8 (by omega) (by omega) (fun s5 b1 b2 b3 => ⟨⟨j + 1, by dsimp only; omega, by omega, pc_ps ps4 (by omega) b1, ?_, ?_, fun k hk => ?_, fun i hi => ?_, pc_nm b1 n5, ?_, ?_⟩, by dsimp only; omega⟩)
    · dsimp only; rw [pc_28 b1]; exact s28
    · dsimp only; rw [pc_d b1 (by omega) (by omega)]; exact d4
    · rw [show t - (j + 1) = d by omega]
      exact b2 k hk
    · dsimp only
      rw [pc_p b1 (by omega) (by omega)]
      exact pc_nm b1 (q4 i hi)
    · have := b1.2.2
      dsimp only; omega
    · dsimp only; omega
theorem share_ok {s : im_S} {f g : Int} {F G : List Int} {M N W : Nat} {Q : Int → im_S → Prop} (hf : pol s f F) (hg : pol s g G) (hM : plb F M) (hN : plb G N) (hL : 0 < pgt G (G.length - 1)) (hG1 : 1 ≤ G.length) (hFG : G.length ≤ F.length) (hW : M + (F.length + 1 - G.length) * (N + 1) ≤ W) (hp : wgf s 28 + 2 ≤ 1200) (h0 : 0 ≤ wgf s 24) (hm : wgf s 24 + 3 + ((F.length + (F.length + 1 - G.length) * (2 * G.length + 5)) * (W + 1) : Nat) + 6 * W + 40 ≤ 684000) (hQ : ∀ s' R, ps s s' → wgf s' 28 = wgf s 28 + 2 → pol s' (wgf s 28 + 1) R → cr 1 (shq F G) R → wgf s' 24 ≤ wgf s 24 + 3 + ((F.length + (F.length + 1 - G.length) * (2 * G.length + 5)) * (W + 1) : Nat) → Q (wgf s 28 + 1) s') : W_share f g s Q := by
  unfold W_share
  obtain ⟨m, hm1⟩ : ∃ m, G.length = m + 1 := ⟨G.length - 1, by omega⟩
  obtain ⟨n, hn1⟩ : ∃ n, F.length = n + 1 := ⟨F.length - 1, by omega⟩
  obtain ⟨t, ht⟩ : ∃ t, t + m = n + 1 := ⟨n + 1 - m, by omega⟩
  obtain ⟨L, eL⟩ : ∃ L, L = pgt G m := ⟨_, rfl⟩
  rw [show G.length - 1 = m by omega, ← eL] at hL
  rw [show F.length + 1 - G.length = t by omega] at hW hm hQ
  have f1 := hf.1
  have f2 := hf.2.1
  have f4 := hf.2.2.2.1
  have f5 := hf.2.2.2.2.1
  have f6 := hf.2.2.2.2.2
  have g1 := hg.1
  have g2 := hg.2.1
  have g5 := hg.2.2.2.2.1
  have g6 := hg.2.2.2.2.2
  have hfb : 0 ≤ f ∧ f < 1200 := ⟨f1, by omega⟩
  have hgb : 0 ≤ g ∧ g < 1200 := ⟨g1, by omega⟩
  have w0 : (0 : Int) ≤ (W : Int) + 1 := by omega
  have hLN : lim L ≤ N := by rw [eL]; exact hN m
  have cst : (((F.length + t * (2 * G.length + 5)) * (W + 1) : Nat) : Int) = (n + 1) * ((W : Int) + 1) + t * ((W : Int) + 1) + t * ((2 * (m : Int) + 3) * ((W : Int) + 1)) + 3 * (t * ((W : Int) + 1)) := by
    rw [hn1, hm1]
    simp only [Int.natCast_mul, Int.natCast_add]
    grind
  rw [cst] at hm hQ
  have t0 : 0 ≤ (t : Int) * ((W : Int) + 1) := Int.mul_nonneg (by omega) w0
  have n0 : 0 ≤ ((n : Int) + 1) * ((W : Int) + 1) := Int.mul_nonneg (by omega) w0
  have e0 : 0 ≤ (t : Int) * ((2 * (m : Int) + 3) * ((W : Int) + 1)) := Int.mul_nonneg (by omega) (Int.mul_nonneg (by omega) w0)
  refine ⟨hfb, newPolynomial_ok (by omega) (by omega) (fun s1 a1 a2 a3 a4 a5 => ⟨hfb, hgb, ?_, ?_⟩)⟩
  · rw [ps_d a1 f1 f2, ps_d a1 g1 g2, f5, g5]; exact ⟨by omega, by omega⟩
  obtain ⟨z, hz⟩ : ∃ z, z = wgf s 28 := ⟨_, rfl⟩
  rw [← hz] at a2 a4 hQ ⊢
  refine newPolynomial_ok (by omega) (by omega) (fun s2 b1 b2 b3 b4 b5 => ?_)
  rw [a2] at b2 b4 ⊢
  have p2 := ps_tr a1 b1
  rw [ps_d a1 f1 f2, ps_d a1 g1 g2, f5, g5] at b4
  have pg2 := ps_pol p2 (by omega) hg
  have hzb : 0 ≤ z ∧ z < 1200 := ⟨by omega, by omega⟩
  have l1 := lim_one
  refine ⟨hgb, ?_⟩
  rw [pg2.2.2.2.2.1, show ((G.length : Nat) : Int) - 1 = (m : Int) by omega]
  have nl := pg2.2.2.2.2.2 m (by omega)
  rw [← eL] at nl
  refine at_ok hgb.1 hgb.2 (by omega) (by omega) (whole_ok ⟨by decide, by decide⟩ (by omega) (by omega) (fun s3 c1 c2 c3 => ⟨hgb, ?_⟩))
  rw [l1] at c3
  have p3 := ps_tr p2 (st_ps c1)
  have nl3 := st_nm c1 nl
  have d3 : wga s3 598 g = (m : Int) := by rw [ps_d p3 g1 g2, g5]; omega
  have y3 : wga s3 598 (z + 1) = (t : Int) - 1 := by rw [st_row c1 (by decide), b4]; omega
  have z3 := st_28 c1
  rw [d3]
  generalize wga s2 599 (9 * g + (m : Int)) = l5 at nl nl3 ⊢
  have lpw : ∀ i : Nat, i ≤ t → lim (L ^ i) ≤ W + 1 ∧ (1 ≤ i → lim (L ^ i) ≤ W) := by
    intro i hi
    have q1 := lim_pow L i
    have q2 : i * lim L ≤ i * (N + 1) := Nat.mul_le_mul_left _ (by omega)
    have q3 : i * (N + 1) ≤ t * (N + 1) := Nat.mul_le_mul_right _ hi
    refine ⟨by omega, fun h1 => ?_⟩
    have q4 : i * lim L + i = i * (lim L + 1) := by rw [Nat.mul_add, Nat.mul_one]
    have q5 : i * (lim L + 1) ≤ i * (N + 1) := Nat.mul_le_mul_left _ (by omega)
    omega
  refine ⟨fun a => ∃ i : Nat, a.2.1 = (m : Int) + i ∧ i ≤ t ∧ st s3 a.2.2 ∧ nm a.2.2 a.1 (L ^ i) ∧ wgf a.2.2 24 ≤ wgf s3 24 + i * ((W : Int) + 1), fun a => ((n : Int) + 1 - a.2.1).toNat, ⟨0, by dsimp only; omega, by omega, st_rfl, by rw [Int.pow_zero]; exact c2, by dsimp only; omega⟩, ?_⟩
  rintro ⟨so, k0, s4⟩ ⟨i, i1, i2, i3, i4, i5⟩
  dsimp only at i1 i2 i3 i4 i5 ⊢
  subst i1
  unfold W_share_58
  have p4 := ps_tr p3 (st_ps i3)
  have i32 := i3.2
  have z4 := st_28 i3
  have df : wga s4 598 f = (n : Int) := by rw [ps_d p4 f1 f2, f5]; omega
  refine ⟨hfb, fun c => ?_, fun c => ?_⟩
  · have ei : i = t := by omega
    subst ei
    refine ⟨fun a => ∃ k : Nat, a.1 = k ∧ k ≤ n + 1 ∧ ps s a.2 ∧ pc z s4 a.2 ∧ (∀ j : Nat, j < k → nm a.2 (wga a.2 599 (9 * z + j)) (L ^ i * shf F G L n m 0 j)) ∧ wgf a.2 24 ≤ wgf s4 24 + k * ((W : Int) + 1), fun a => ((n : Int) + 1 - a.1).toNat, ⟨0, rfl, by omega, p4, pc_rfl, fun j hj => by omega, by dsimp only; omega⟩, ?_⟩
    rintro ⟨k1, s5⟩ ⟨k, j1, j2, j3, j4, j5, j6⟩
    dsimp only at j1 j2 j3 j4 j5 j6 ⊢
    subst j1
    unfold W_share_88
    have df5 : wga s5 598 f = (n : Int) := by rw [ps_d j3 f1 f2, f5]; omega
    have dg5 : wga s5 598 g = (m : Int) := by rw [ps_d j3 g1 g2, g5]; omega
    have z5 := pc_28 j4
    have j42 := j4.2.2
    have nn := km_le (k := k) (n := n + 1) j2 w0
    rw [show ((n + 1 : Nat) : Int) = (n : Int) + 1 by omega] at nn
    refine ⟨hfb, fun c => ⟨hfb, hgb, ?_, ?_⟩, fun c => ?_⟩
    · rw [df5, dg5]; exact ⟨by omega, by omega⟩
    · have ek : k = n + 1 := by omega
      subst ek
      rw [df5, dg5, show (n : Int) - m = (i : Int) - 1 by omega]
      refine share_140 (s := s) (s1 := s5) (M := M) (N := N) (W := W) (L := L) j3 hg hz (by omega) (by omega) (by omega) hm1 hn1 eL hL ht hM hN hW ?_ (fun k hk => j5 k (by omega)) (pc_nm j4 (st_nm i3 nl3)) (by omega) (by omega) (fun s' R e1 e2 e3 e4 e5 => hQ s' R e1 e2 e3 e4 (by omega))
      rw [pc_d j4 (by omega) (by omega), st_row i3 (by decide)]
      exact y3
    · have hk : k < n + 1 := by omega
      have m1 := km_le (k := k + 1) (n := n + 1) (by omega) w0
      have m2 := km_s k ((W : Int) + 1)
      rw [show ((n + 1 : Nat) : Int) = (n : Int) + 1 by omega] at m1
      have nf : nm s5 (wga s5 599 (9 * f + k)) (pgt F k) := by
        rw [ps_p j3 (by omega) (by omega)]
        exact ps_nm j3 (f6 k (by omega))
      have q1 := shf_lb2 (F := F) (G := G) (L := L) (n := n) (m := m) (a := i) (j := 0) (k := k) hM hN hLN hW (by omega)
      have q2 := hM k
      have q3 := (lpw i (Nat.le_refl _)).1
      refine at_ok hfb.1 hfb.2 (by omega) (by omega) (by_ok nf (pc_nm j4 i4) (by omega) (by omega) (fun s6 e1 e2 e3 => ?_))
      rw [Int.mul_comm] at e2 e3
      have e2' : nm s6 (wgf s5 24) (L ^ i * shf F G L n m 0 k) := e2
      have e3' : wgf s6 24 = wgf s5 24 + lim (L ^ i * shf F G L n m 0 k) + 1 := e3
      refine set_ok hzb.1 hzb.2 (by omega) (by omega) ⟨⟨by omega, by omega⟩, ⟨k + 1, by dsimp only; omega, by omega, ?_, ?_, fun j hj => ?_, ?_⟩, by dsimp only; omega⟩
      · exact pc_ps (ps_tr j3 (st_ps e1)) (f := z) (by omega) (pc_set pc_rfl hzb.1 (by omega) (by omega))
      · exact pc_set (pc_tr j4 (st_pc e1)) hzb.1 (by omega) (by omega)
      · dsimp only
        by_cases q : j = k
        · subst q; exact en_new e2'
        · exact en_old e1 hzb.1 q (j5 j (by omega))
      · dsimp only; rw [wf_pa]; omega
  · have hi : i < t := by omega
    have m1 := km_le (k := i + 1) (n := t) (by omega) w0
    have m2 := km_s i ((W : Int) + 1)
    have q1 := (lpw i (by omega)).1
    have q2 := (lpw (i + 1) (by omega)).2 (by omega)
    have q5 : 1 * (N + 1) ≤ t * (N + 1) := Nat.mul_le_mul_right _ (by omega)
    refine by_ok i4 (st_nm i3 nl3) (by omega) (by omega) (fun s5 e1 e2 e3 => ⟨⟨by omega, by omega⟩, ⟨i + 1, by dsimp only; omega, by omega, st_tr i3 e1, by rw [Int.pow_succ]; exact e2, ?_⟩, by dsimp only; omega⟩)
    rw [Int.pow_succ] at q2
    dsimp only; omega
