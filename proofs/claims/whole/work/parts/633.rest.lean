/-! THE REFERENCE'S POLYNOMIALS: restOf -/
theorem pev_one : ∀ (n d : Nat) (c : Int) (x : Rat), d < n → pev (pmk n (fun k => if k = d then c else 0)) x = c * x ^ d
  | 0, d, _, _, h => absurd h (Nat.not_lt_zero d)
  | n + 1, 0, c, x, _ => by
    rw [pev_mks, if_pos rfl, pev_z n _ x (fun k _ => if_neg (by omega))]
    grind
  | n + 1, d + 1, c, x, h => by
    rw [pev_mks, if_neg (by omega), pmk_co (g := fun k => if k = d then c else 0) (fun k _ => ?_), pev_one n d c x (by omega)]
    · have e : ((0 : Int) : Rat) = 0 := rfl
      rw [e]
      grind
    · by_cases q : k = d
      · rw [if_pos q, if_pos (by omega)]
      · rw [if_neg q, if_neg (by omega)]
/-- F times a number is a multiple of G and R times a number -/
def prm (n : Nat) (F G R : List Int) : Prop := ∃ (a b : Int) (q : List Int), 0 < a ∧ 0 < b ∧ q.length ≤ n ∧ ∀ x : Rat, a * pev F x = pev q x * pev G x + b * pev R x
theorem prm_rfl {n : Nat} {F G : List Int} : prm n F G F := ⟨1, 1, [], by decide, by decide, by simp, fun x => by
  show ((1 : Int) : Rat) * pev F x = 0 * pev G x + ((1 : Int) : Rat) * pev F x
  grind⟩
theorem prm_turn {F G r R : List Int} {n d : Nat} {A so g : Int} (hA : 0 < A) (hg : 0 < g) (hd : d < n) (h1 : ∀ x : Rat, g * pev R x = A * pev r x - so * x ^ d * pev G x) (h : prm n F G r) : prm n F G R := by
  obtain ⟨a, b, q, a0, b0, ql, e⟩ := h
  refine ⟨A * a, b * g, pmk n (fun k => A * pgt q k + (if k = d then b * so else 0)), Int.mul_pos hA a0, Int.mul_pos b0 hg, by rw [pmk_len]; exact Nat.le_refl _, fun x => ?_⟩
  have e1 := e x
  have e2 := h1 x
  rw [pev_add, pev_sc, pev_pad q n x ql, pev_one n d _ x hd, Rat.intCast_mul, Rat.intCast_mul, Rat.intCast_mul]
  grind
def rr (F G R : List Int) : Prop := (F.length < G.length ∧ R = F) ∨ (G.length ≤ F.length ∧ R.length < G.length ∧ pcl R ∧ prm (F.length + 1 - G.length) F G R)
theorem restOf_156 {s1 : im_S} {K92 : im_S → Prop} {g z l5 l6 l9 A so : Int} {G r : List Int} {d e M N : Nat} {Q : Int → im_S → Prop} (hgz : g ≠ z) (hg : pol s1 g G) (hG : plb G N) (hr : pol s1 z r) (hre : r.length = e + 1) (hde : e + 1 = d + G.length) (hG1 : 1 ≤ G.length) (hM : plb r M) (h6 : nm s1 l6 A) (hA : lim A ≤ N) (h9 : nm s1 l9 so) (hso : lim so ≤ M) (h0 : 0 ≤ wgf s1 24) (hm : wgf s1 24 + 3 * (e * ((M : Int) + N + 2)) + 3 * (M + N) + 20 ≤ 684000) (hQ : ∀ s', pc z s1 s' → wga s' 598 z = e → (∀ k : Nat, k < e → nm s' (wga s' 599 (9 * z + k)) (ptn r G d A so k)) → wgf s' 24 ≤ wgf s1 24 + 3 * (e * ((M : Int) + N + 2)) → ∀ s11, s11 = wpa s' 598 z ((e : Int) - 1) → W_clean z 0 s11 K92) : W_restOf_151 K92 g z l5 l6 d l9 s1 Q := by
  unfold W_restOf_151
  obtain ⟨z1, z2, z3, z4, z5, z6⟩ := hr
  obtain ⟨g1, g2, g3, g4, g5, g6⟩ := hg
  have hz : 0 ≤ z ∧ z < 1200 := ⟨z1, by omega⟩
  have u0 : (0 : Int) ≤ (M : Int) + N + 2 := by omega
  refine ⟨fun a => ∃ k : Nat, a.1 = k ∧ k ≤ e ∧ pc z s1 a.2 ∧ wga a.2 598 z = e ∧ (∀ j : Nat, j < k → nm a.2 (wga a.2 599 (9 * z + j)) (ptn r G d A so j)) ∧ (∀ j : Nat, k ≤ j → j ≤ e → nm a.2 (wga a.2 599 (9 * z + j)) (pgt r j)) ∧ wgf a.2 24 ≤ wgf s1 24 + 3 * (k * ((M : Int) + N + 2)), fun a => ((e : Int) - a.1).toNat, ⟨0, rfl, by omega, pc_rfl, by dsimp only; rw [z5]; omega, fun j a => by omega, fun j _ a => z6 j (by omega), by dsimp only; omega⟩, ?_⟩
  rintro ⟨k0, s2⟩ ⟨k, i1, i2, i3, i4, i5, i6, i7⟩
  dsimp only at i1 i2 i3 i4 i5 i6 i7 ⊢
  subst i1
  unfold W_restOf_156
  have i32 := i3.2.2
  refine ⟨hz, fun c => ?_, fun c => ?_⟩
  · have ek : k = e := by omega
    subst ek
    refine ⟨hz, by rw [i4]; exact ⟨by omega, by omega⟩, hz, fun s11 e11 => ?_⟩
    exact hQ s2 i3 i4 i5 i7 s11 (by rw [e11, i4])
  · have hk : k < e := by omega
    have m1 := km_le (k := k + 1) (n := e) (by omega) u0
    have m2 := km_s k ((M : Int) + N + 2)
    have lk := hM k
    have n6 := pc_nm i3 h6
    have n9 := pc_nm i3 h9
    have fin : ∀ (s3 : im_S) (v : Int), st s2 s3 → nm s3 v (ptn r G d A so k) → wgf s3 24 ≤ wgf s2 24 + 3 * ((M : Int) + N + 2) → W_restOf_220 K92 (fun b => (∃ k : Nat, b.1 = k ∧ k ≤ e ∧ pc z s1 b.2 ∧ wga b.2 598 z = e ∧ (∀ j : Nat, j < k → nm b.2 (wga b.2 599 (9 * z + j)) (ptn r G d A so j)) ∧ (∀ j : Nat, k ≤ j → j ≤ e → nm b.2 (wga b.2 599 (9 * z + j)) (pgt r j)) ∧ wgf b.2 24 ≤ wgf s1 24 + 3 * (k * ((M : Int) + N + 2))) ∧ ((e : Int) - b.1).toNat < ((e : Int) - k).toNat) g z l5 l6 d l9 k z k v s3 Q := by
      intro s3 v a3 n3 t3
      unfold W_restOf_220
      refine set_ok hz.1 hz.2 (by omega) (by omega) ⟨⟨by omega, by omega⟩, ⟨k + 1, by dsimp only; omega, by omega, ?_, ?_, fun j hj => ?_, fun j hj hj2 => ?_, ?_⟩, by dsimp only; omega⟩
      · exact pc_set (pc_tr i3 (st_pc a3)) hz.1 (by omega) (by omega)
      · dsimp only
        rw [wg_row (by decide), st_row a3 (by decide)]
        exact i4
      · dsimp only
        by_cases q : j = k
        · subst q
          exact en_new n3
        · exact en_old a3 hz.1 q (i5 j (by omega))
      · dsimp only
        exact en_old a3 hz.1 (by omega) (i6 j (by omega) hj2)
      · dsimp only
        rw [wf_pa]
        omega
    refine at_ok hz.1 hz.2 (by omega) (by omega) (by_ok (i6 k (Nat.le_refl _) i2) n6 (by omega) (by omega) (fun s3 a3 n3 t3 => ⟨fun c4 => ⟨⟨by omega, by omega⟩, ?_⟩, fun c4 => ?_⟩))
    · have lx := lim_mul (pgt r k) A
      have gl := hG (k - d)
      have ng : nm s3 (wga s3 599 (9 * g + ((k : Int) - d))) (pgt G (k - d)) := by
        rw [st_row a3 (by decide), pc_p i3 (by omega) (by omega), show (k : Int) - d = ((k - d : Nat) : Int) by omega]
        exact st_nm a3 (pc_nm i3 (g6 (k - d) (by omega)))
      refine at_ok g1 (by omega) (by omega) (by omega) (by_ok (st_nm a3 n9) ng (by omega) (by omega) (fun s4 a4 n4 t4 => ?_))
      have ly := lim_mul so (pgt G (k - d))
      refine minus_ok (st_nm a4 n3) n4 (by omega) (by omega) (fun s5 a5 n5 t5 => ?_)
      have lz := lim_sub (pgt r k * A) (so * pgt G (k - d))
      refine fin s5 _ (st_tr a3 (st_tr a4 a5)) ?_ (by omega)
      unfold ptn
      rw [if_neg (by omega)]
      exact n5
    · have lx := lim_mul (pgt r k) A
      refine fin s3 _ a3 ?_ (by omega)
      unfold ptn
      rw [if_pos (by omega), Int.sub_zero]
      exact n3
theorem restOf_90 {s0 s1 : im_S} {g z l5 l6 A : Int} {F G : List Int} {M N : Nat} {Q : Int → im_S → Prop} (hs : ps s0 s1) (hz0 : wgf s0 28 ≤ z) (hgz : g ≠ z) (hg : pol s1 g G) (hN : plb G N) (hF : pol s1 z F) (hM : plb F M) (hG1 : 1 ≤ G.length) (hA0 : 0 < A) (h5 : (l5 = 0 ∧ A = pgt G (G.length - 1)) ∨ (¬ l5 = 0 ∧ A = -pgt G (G.length - 1))) (h6 : nm s1 l6 A) (hA : lim A ≤ N) (h0 : 0 ≤ wgf s1 24) (hm : wgf s1 24 + rco F.length G.length M N + 16 * (rlm F.length G.length M N + 3) + 40 ≤ 684000) (hQ : ∀ s' R, ps s0 s' → wgf s' 28 = wgf s1 28 → pol s' z R → rr F G R → plb R (rlm F.length G.length M N) → wgf s' 24 ≤ wgf s1 24 + rco F.length G.length M N → Q z s') : W_restOf_90 g z l5 l6 s1 Q := by
  unfold W_restOf_90
  refine ⟨fun a => ∃ (r : List Int) (B : Nat), pc z s1 a ∧ pol a z r ∧ plb r B ∧ r.length ≤ F.length ∧ (r = F ∨ (G.length ≤ F.length ∧ pcl r)) ∧ prm (F.length + 1 - G.length) F G r ∧ rlm r.length G.length B N ≤ rlm F.length G.length M N ∧ wgf a 24 + rco r.length G.length B N ≤ wgf s1 24 + rco F.length G.length M N, fun a => (wga a 598 z + 1).toNat, ⟨F, M, pc_rfl, hF, hM, Nat.le_refl _, Or.inl rfl, prm_rfl, Nat.le_refl _, Int.le_refl _⟩, ?_⟩
  rintro s2 ⟨r, B, i1, i2, i3, i4, i5, i6, i7, i8⟩
  have pg := pc_pol i1 hgz hg
  obtain ⟨z1, z2, z3, z4, z5, z6⟩ := i2
  obtain ⟨g1, g2, g3, g4, g5, g6⟩ := pg
  have hz : 0 ≤ z ∧ z < 1200 := ⟨z1, by omega⟩
  have hgb : 0 ≤ g ∧ g < 1200 := ⟨g1, by omega⟩
  unfold W_restOf_92
  refine ⟨hz, hgb, fun c => ?_, fun c => ⟨hz, hgb, ?_, ?_⟩⟩
  · have c2 : r.length < G.length := by omega
    have z28 := pc_28 i1
    refine hQ s2 r (pc_ps hs hz0 i1) z28 ⟨z1, z2, z3, z4, z5, z6⟩ ?_ ?_ (by omega)
    · by_cases q : F.length < G.length
      · rcases i5 with e | e
        · exact Or.inl ⟨q, e⟩
        · omega
      · rcases i5 with e | e
        · rw [e] at c2; omega
        · exact Or.inr ⟨e.1, c2, e.2, i6⟩
    · intro k
      have a := i3 k
      have b := rlm_ge r.length G.length B N
      omega
  · rw [z5, g5]; exact ⟨by omega, by omega⟩
  · have c2 : G.length ≤ r.length := by omega
    obtain ⟨e, he⟩ : ∃ e, r.length = e + 1 := ⟨r.length - 1, by omega⟩
    obtain ⟨d, hd⟩ : ∃ d, e + 1 = d + G.length := ⟨e + 1 - G.length, by omega⟩
    have h28 := pc_28 i1
    have ed : wga s2 598 z - wga s2 598 g = (d : Int) := by rw [z5, g5]; omega
    rw [ed, z5]
    have ro : rco r.length G.length B N = 5 * ((e + 1) * (B + N + 2)) + rco e G.length (B + N + 1) N := by
      rw [he]
      show (if e + 1 < G.length then 0 else 5 * ((e + 1) * (B + N + 2)) + rco e G.length (B + N + 1) N) = _
      rw [if_neg (by omega)]
    have rl : rlm r.length G.length B N = rlm e G.length (B + N + 1) N := by
      rw [he]
      show (if e + 1 < G.length then B else rlm e G.length (B + N + 1) N) = _
      rw [if_neg (by omega)]
    have rg := rlm_ge e G.length (B + N + 1) N
    have nt := z6 e (by omega)
    have lt := i3 e
    have pe : (((e + 1) * (B + N + 2) : Nat) : Int) = e * ((B : Int) + N + 2) + ((B : Int) + N + 2) := by
      rw [Int.natCast_mul, show ((B + N + 2 : Nat) : Int) = (B : Int) + N + 2 by omega]
      exact km_s e _
    have pe8 : (e : Int) * ((B : Int) + N + 2) ≤ 8 * ((B : Int) + N + 2) := Int.mul_le_mul_of_nonneg_right (by omega) (by omega)
    have pe0 : 0 ≤ (e : Int) * ((B : Int) + N + 2) := Int.mul_nonneg (by omega) (by omega)
    have mem : wgf s2 24 + 5 * (e * ((B : Int) + N + 2)) + 5 * ((B : Int) + N + 2) + rco e G.length (B + N + 1) N ≤ wgf s1 24 + rco F.length G.length M N := by
      rw [ro] at i8
      have q : ((5 * ((e + 1) * (B + N + 2)) + rco e G.length (B + N + 1) N : Nat) : Int) = 5 * (e * ((B : Int) + N + 2)) + 5 * ((B : Int) + N + 2) + rco e G.length (B + N + 1) N := by omega
      omega
    have body : ∀ (s3 : im_S) (l9 so : Int), st s2 s3 → nm s3 l9 so → pgt r e * A = so * pgt G (G.length - 1) → lim so ≤ B → wgf s3 24 ≤ wgf s2 24 + (B + 1) → W_restOf_151 (fun b => (∃ (r : List Int) (B : Nat), pc z s1 b ∧ pol b z r ∧ plb r B ∧ r.length ≤ F.length ∧ (r = F ∨ (G.length ≤ F.length ∧ pcl r)) ∧ prm (F.length + 1 - G.length) F G r ∧ rlm r.length G.length B N ≤ rlm F.length G.length M N ∧ wgf b 24 + rco r.length G.length B N ≤ wgf s1 24 + rco F.length G.length M N) ∧ (wga b 598 z + 1).toNat < (wga s2 598 z + 1).toNat) g z l5 l6 d l9 s3 Q := by
      intro s3 l9 so a3 n3 eso lso t3
      have a32 := a3.2
      have i12 := i1.2.2
      have p3 : pol s3 z r := ps_pol (st_ps a3) (by rw [st_28 a3]; omega) ⟨z1, z2, z3, z4, z5, z6⟩
      have q3 : pol s3 g G := ps_pol (st_ps a3) (by rw [st_28 a3]; omega) ⟨g1, g2, g3, g4, g5, g6⟩
      refine restOf_156 hgz q3 hN p3 he hd hG1 i3 (st_nm a3 (pc_nm i1 h6)) hA n3 lso (by omega) (by omega) (fun s' b1 b2 b3 b4 s11 e11 => ?_)
      have b12 := b1.2.2
      have b28 := pc_28 b1
      have s28 := st_28 a3
      have t11 : wgf s11 24 = wgf s' 24 := by rw [e11]; rfl
      have p11 : pol s11 z (pmk e (ptn r G d A so)) := by
        refine ⟨z1, ?_, ?_, by rw [pmk_len]; omega, ?_, fun k hk => ?_⟩
        · rw [e11, wf_pa]; omega
        · rw [e11, wf_pa]; omega
        · rw [e11, wg_same, pmk_len]
        · rw [pmk_len] at hk
          rw [pmk_gt, if_pos hk, e11, wg_row (by decide)]
          exact nm_row (by decide) (b3 k hk)
      have pl := pmk_len e (ptn r G d A so)
      have lb11 : plb (pmk e (ptn r G d A so)) (B + N + 1) := pmk_lb (fun k _ => ptn_lb (e := e) i3 hN hA lso k)
      refine clean_ok p11 lb11 (Or.inl rfl) (by omega) ?_ (fun s12 R c1 c3 c4 c5 c6 => ?_)
      · rw [pl, show ((B + N + 1 : Nat) : Int) + 1 = (B : Int) + N + 2 by omega]
        omega
      · have c7 := c6 rfl
        rw [pl, show ((B + N + 1 : Nat) : Int) + 1 = (B : Int) + N + 2 by omega] at c7
        have c40 := c4.1
        rw [pl] at c40
        obtain ⟨γ, γ0, γ1, γ2⟩ := c4.2.2.2
        have pcc : pc z s1 s12 := pc_tr i1 (pc_tr (st_pc a3) (pc_tr b1 (by rw [e11] at c1; exact pc_tr (pc_deg pc_rfl z1) c1)))
        have m1 := rlm_mono e R.length G.length (B + N + 1) (B + N + 1) N c40 (Nat.le_refl _)
        have m2 := rco_mono e R.length G.length (B + N + 1) (B + N + 1) N c40 (Nat.le_refl _)
        refine ⟨⟨R, B + N + 1, pcc, c3, cr_lb c4 lb11, by omega, Or.inr ⟨by omega, cr_pcl c4⟩, prm_turn hA0 (γ1 rfl) (d := d) (so := so) (by omega) (fun x => ?_) i6, by omega, by omega⟩, ?_⟩
        · rw [← pev_csc γ2 x]
          exact pev_ptn he hd hG1 eso x
        · have c35 := c3.2.2.2.2.1
          rw [c35, z5]
          omega
    rw [show (((r.length : Nat) : Int) - 1) = ((e : Nat) : Int) by omega]
    refine at_ok hz.1 hz.2 (by omega) (by omega) ⟨fun c5 => ?_, fun c5 => ?_⟩
    · rcases h5 with h5 | h5
      · exact body s2 _ _ st_rfl nt (by rw [h5.2]) lt (by omega)
      · exact absurd c5 h5.1
    · rcases h5 with h5 | h5
      · exact absurd h5.1 c5
      · have i12 := i1.2.2
        refine less_ok nt (by omega) (by omega) (fun s3 a3 n3 t3 => ?_)
        exact body s3 _ _ a3 n3 (by rw [h5.2, Int.mul_neg, Int.neg_mul]) (by rw [lim_neg]; exact lt) (by omega)
theorem restOf_ok {s : im_S} {f g : Int} {F G : List Int} {M N : Nat} {Q : Int → im_S → Prop} (hf : pol s f F) (hg : pol s g G) (hM : plb F M) (hN : plb G N) (hG : ∀ n, G.length = n + 1 → pgt G n ≠ 0) (hG1 : 1 ≤ G.length) (hp : wgf s 28 < 1200) (h0 : 0 ≤ wgf s 24) (hm : wgf s 24 + (N + 1) + rco F.length G.length M N + 16 * (rlm F.length G.length M N + 3) + 40 ≤ 684000) (hQ : ∀ s' R, ps s s' → wgf s' 28 = wgf s 28 + 1 → pol s' (wgf s 28) R → rr F G R → plb R (rlm F.length G.length M N) → wgf s' 24 ≤ wgf s 24 + (N + 1) + rco F.length G.length M N → Q (wgf s 28) s') : W_restOf f g s Q := by
  unfold W_restOf
  obtain ⟨f1, f2, f3, f4, f5, f6⟩ := hf
  obtain ⟨g1, g2, g3, g4, g5, g6⟩ := hg
  have hfb : 0 ≤ f ∧ f < 1200 := ⟨f1, by omega⟩
  have hgb : 0 ≤ g ∧ g < 1200 := ⟨g1, by omega⟩
  refine ⟨hfb, newPolynomial_ok (by omega) hp (fun s1 a1 a2 a3 a4 a5 => ?_)⟩
  obtain ⟨z, hz⟩ : ∃ z, z = wgf s 28 := ⟨_, rfl⟩
  rw [← hz] at a2 a4 hQ ⊢
  have hzb : 0 ≤ z ∧ z < 1200 := ⟨by omega, by omega⟩
  refine ⟨fun a => ∃ k : Nat, a.1 = k ∧ k ≤ F.length ∧ ps s a.2 ∧ wgf a.2 28 = z + 1 ∧ wgf a.2 24 = wgf s 24 ∧ wga a.2 598 z = (F.length : Int) - 1 ∧ ∀ j : Nat, j < k → nm a.2 (wga a.2 599 (9 * z + j)) (pgt F j), fun a => ((F.length : Int) - a.1).toNat, ⟨0, rfl, by omega, a1, a2, a3, by dsimp only; rw [a4]; exact f5, fun j hj => by omega⟩, ?_⟩
  rintro ⟨k0, s2⟩ ⟨k, i1, i2, i3, i4, i5, i6, i7⟩
  dsimp only at i1 i2 i3 i4 i5 i6 i7 ⊢
  subst i1
  unfold W_restOf_14
  have df : wga s2 598 f = (F.length : Int) - 1 := by rw [ps_d i3 f1 (by omega)]; exact f5
  have dg : wga s2 598 g = (G.length : Int) - 1 := by rw [ps_d i3 g1 (by omega)]; exact g5
  refine ⟨hfb, fun c => ⟨hgb, ?_⟩, fun c => ?_⟩
  · have ek : k = F.length := by omega
    have pz : pol s2 z F := ⟨hzb.1, by omega, by omega, f4, i6, fun j hj => i7 j (by omega)⟩
    have pg : pol s2 g G := ps_pol i3 (by omega) ⟨g1, g2, g3, g4, g5, g6⟩
    obtain ⟨m, hm1⟩ : ∃ m, G.length = m + 1 := ⟨G.length - 1, by omega⟩
    have nl := pg.2.2.2.2.2 m (by omega)
    have ll := hN m
    have l0 := hG m hm1
    rw [dg, show ((G.length : Nat) : Int) - 1 = (m : Int) by omega]
    refine at_ok hgb.1 hgb.2 (by omega) (by omega) (sgn_ok nl.1 (fun v hv => ?_))
    have sc := sg_c (pgt G m)
    have go : ∀ (s3 : im_S) (l6 A : Int), st s2 s3 → nm s3 l6 A → 0 < A → ((v = 0 ∧ A = pgt G (G.length - 1)) ∨ (¬ v = 0 ∧ A = -pgt G (G.length - 1))) → lim A ≤ N → wgf s3 24 ≤ wgf s2 24 + (N + 1) → W_restOf_90 g z v l6 s3 Q := by
      intro s3 l6 A b1 b2 b3 b4 b5 b6
      have b12 := b1.2
      have b28 := st_28 b1
      refine restOf_90 (s0 := s) (ps_tr i3 (st_ps b1)) (by omega) (by omega) (ps_pol (st_ps b1) (by omega) pg) hN (ps_pol (st_ps b1) (by omega) pz) hM hG1 b3 b4 b2 b5 (by omega) (by omega) (fun s' R c1 c2 c3 c4 c5 c6 => hQ s' R c1 (by omega) c3 c4 c5 (by omega))
    have em : G.length - 1 = m := by omega
    refine ⟨fun c5 => ?_, fun c5 => ?_⟩
    · have c6 : 0 ≤ sg (pgt G m) := by
        rw [hv] at c5
        by_cases q : 0 ≤ sg (pgt G m)
        · exact q
        · rw [if_neg q] at c5; omega
      exact go s2 _ _ st_rfl nl (by omega) (Or.inl ⟨c5, by rw [em]⟩) ll (by omega)
    · have c6 : ¬ 0 ≤ sg (pgt G m) := by
        intro q
        rw [hv, if_pos q] at c5
        exact c5 rfl
      refine less_ok nl (by omega) (by omega) (fun s3 b1 b2 b3 => ?_)
      exact go s3 _ _ b1 b2 (by omega) (Or.inr ⟨c5, by rw [em]⟩) (by rw [lim_neg]; exact ll) (by omega)
  · have hk : k < F.length := by omega
    refine at_ok hfb.1 hfb.2 (by omega) (by omega) (set_ok hzb.1 hzb.2 (by omega) (by omega) ⟨⟨by omega, by omega⟩, ⟨k + 1, by dsimp only; omega, by omega, ?_, ?_, ?_, ?_, fun j hj => ?_⟩, by dsimp only; omega⟩)
    · exact pc_ps i3 (by omega) (pc_set pc_rfl hzb.1 (by omega) (by omega))
    · dsimp only; rw [wf_pa]; exact i4
    · dsimp only; rw [wf_pa]; exact i5
    · dsimp only; rw [wg_row (by decide)]; exact i6
    · dsimp only
      by_cases q : j = k
      · subst q
        refine en_new ?_
        rw [ps_p i3 (by omega) (by omega)]
        exact ps_nm i3 (f6 j hk)
      · exact en_old st_rfl hzb.1 q (i7 j (by omega))
