/-! THE REFERENCE'S POLYNOMIALS: makeChain -/
/-- fields fs and rows rs besides; memory from lo on, polynomials from pl on -/
def pw (fs rs : List Nat) (lo pl : Int) (s s' : im_S) : Prop := (∀ c f : Nat, ¬ (c = 582 ∧ (f = 24 ∨ f = 25 ∨ f = 28 ∨ f ∈ fs)) → s'.1 c f = s.1 c f) ∧ (∀ c i : Nat, ¬ (c = 597 ∧ lo ≤ (i : Int) ∧ (i : Int) < 684000) → ¬ (c = 598 ∧ pl ≤ (i : Int)) → ¬ (c = 599 ∧ 9 * pl ≤ (i : Int)) → c ∉ rs → s'.2 c i = s.2 c i)
theorem pw_rfl {fs rs : List Nat} {lo pl : Int} {s : im_S} : pw fs rs lo pl s s := ⟨fun _ _ _ => rfl, fun _ _ _ _ _ _ => rfl⟩
theorem pw_tr {fs rs : List Nat} {lo pl : Int} {s s1 s2 : im_S} (h1 : pw fs rs lo pl s s1) (h2 : pw fs rs lo pl s1 s2) : pw fs rs lo pl s s2 := ⟨fun c f h => (h2.1 c f h).trans (h1.1 c f h), fun c i q1 q2 q3 q4 => (h2.2 c i q1 q2 q3 q4).trans (h1.2 c i q1 q2 q3 q4)⟩
theorem pw_mono {fs rs fs' rs' : List Nat} {lo pl lo' pl' : Int} {s s' : im_S} (h : pw fs rs lo pl s s') (h1 : ∀ f, f ∈ fs → f ∈ fs') (h2 : ∀ r, r ∈ rs → r ∈ rs') (h3 : lo' ≤ lo) (h4 : pl' ≤ pl) : pw fs' rs' lo' pl' s s' := ⟨fun c f q => h.1 c f (fun z => q ⟨z.1, by rcases z.2 with e | e | e | e; exact Or.inl e; exact Or.inr (Or.inl e); exact Or.inr (Or.inr (Or.inl e)); exact Or.inr (Or.inr (Or.inr (h1 f e)))⟩), fun c i q1 q2 q3 q4 => h.2 c i (fun z => q1 ⟨z.1, by omega, z.2.2⟩) (fun z => q2 ⟨z.1, by omega⟩) (fun z => q3 ⟨z.1, by omega⟩) (fun z => q4 (h2 c z))⟩
theorem ps_pw {fs rs : List Nat} {lo pl : Int} {s s' : im_S} (h : ps s s') (h1 : lo ≤ wgf s 24) (h2 : pl ≤ wgf s 28) : pw fs rs lo pl s s' := ⟨fun c f q => h.1 c f (fun z => q ⟨z.1, by rcases z.2 with e | e | e; exact Or.inl e; exact Or.inr (Or.inl e); exact Or.inr (Or.inr (Or.inl e))⟩), fun c i q1 q2 q3 _ => h.2.1 c i (fun z => q1 ⟨z.1, by omega, z.2.2⟩) (fun z => q2 ⟨z.1, by omega⟩) (fun z => q3 ⟨z.1, by omega⟩)⟩
theorem pw_pf {fs rs : List Nat} {lo pl x : Int} {f : Nat} {s s' : im_S} (h : pw fs rs lo pl s s') (hf : f = 24 ∨ f = 25 ∨ f = 28 ∨ f ∈ fs) : pw fs rs lo pl s (wpf s' f x) := ⟨fun c g q => by
  have e : (wpf s' f x).1 c g = s'.1 c g := im_up_ne (fun z => q ⟨z.1, by rw [z.2]; exact hf⟩)
  rw [e]
  exact h.1 c g q, h.2⟩
theorem pw_pa {fs rs : List Nat} {lo pl x i : Int} {c : Nat} {s s' : im_S} (h : pw fs rs lo pl s s') (hc : c ∈ rs) : pw fs rs lo pl s (wpa s' c i x) := ⟨h.1, fun d j q1 q2 q3 q4 => by
  have e : (wpa s' c i x).2 d j = s'.2 d j := im_up_ne (fun z => q4 (by rw [z.1]; exact hc))
  rw [e]
  exact h.2 d j q1 q2 q3 q4⟩
theorem pw_f {fs rs : List Nat} {lo pl : Int} {s s' : im_S} {f : Nat} (h : pw fs rs lo pl s s') (hf : ¬ (f = 24 ∨ f = 25 ∨ f = 28 ∨ f ∈ fs)) : wgf s' f = wgf s f := h.1 582 f (fun e => hf e.2)
theorem pw_r {fs rs : List Nat} {lo pl : Int} {s s' : im_S} {c : Nat} {i : Int} (h : pw fs rs lo pl s s') (h1 : c ≠ 597) (h2 : c ≠ 598) (h3 : c ≠ 599) (h4 : c ∉ rs) : wga s' c i = wga s c i := h.2 c i.toNat (fun z => h1 z.1) (fun z => h2 z.1) (fun z => h3 z.1) h4
theorem pw_num {fs rs : List Nat} {lo pl x X : Int} {s s' : im_S} (h : pw fs rs lo pl s s') (hr : 597 ∉ rs) (hn : num s x X) (hx : x + lim X < lo ∨ 684000 ≤ x) : num s' x X := by
  have a := hn.1
  exact num_co hn hn.1 hn.2.1 (fun k q1 q2 => h.2 597 (x + k).toNat (by omega) (by omega) (by omega) hr)
theorem pw_pol {fs rs : List Nat} {lo pl f : Int} {P : List Int} {s s' : im_S} (h : pw fs rs lo pl s s') (hr : 597 ∉ rs ∧ 598 ∉ rs ∧ 599 ∉ rs) (hl : wgf s 24 ≤ lo) (hl2 : lo ≤ wgf s' 24) (hp : wgf s 28 ≤ pl) (hp2 : pl ≤ wgf s' 28) (hp3 : wgf s' 28 ≤ 1200) (hf : pol s f P) : pol s' f P := by
  obtain ⟨f1, f2, f3, f4, f5, f6⟩ := hf
  refine ⟨f1, by omega, hp3, f4, ?_, fun k hk => ?_⟩
  · rw [← f5]
    exact h.2 598 f.toNat (by omega) (by omega) (by omega) hr.2.1
  · have e : wga s' 599 (9 * f + k) = wga s 599 (9 * f + k) := h.2 599 (9 * f + k).toNat (by omega) (by omega) (by omega) hr.2.2
    rw [e]
    have z := f6 k hk
    exact ⟨pw_num h hr.1 z.1 (by have := z.2; omega), by have := z.2; omega⟩
theorem pc_pw {fs rs : List Nat} {lo pl f : Int} {s s' : im_S} (h : pc f s s') (h1 : lo ≤ wgf s 24) (h2 : pl ≤ f) : pw fs rs lo pl s s' := ⟨fun c g q => h.1 c g (fun z => q ⟨z.1, by rcases z.2 with e | e; exact Or.inl e; exact Or.inr (Or.inl e)⟩), fun c i q1 q2 q3 _ => h.2.1 c i (fun z => q1 ⟨z.1, by omega, z.2.2⟩) (fun z => q2 ⟨z.1, by omega⟩) (fun z => q3 ⟨z.1, by omega⟩)⟩
def png (R : List Int) : List Int := pmk R.length (fun k => -pgt R k)
theorem png_len (R : List Int) : (png R).length = R.length := pmk_len _ _
theorem png_gt (R : List Int) (k : Nat) : pgt (png R) k = -pgt R k := by
  unfold png
  rw [pmk_gt]
  by_cases c : k < R.length
  · rw [if_pos c]
  · rw [if_neg c, pgt_hi R k (by omega)]; rfl
/-- a chain: first two, each next the rest turned round, the last -/
def chs (F : List Int) (Inv : List Int → List Int → Prop) (c : Nat → List Int) (N : Nat) : Prop := c 0 = F ∧ 2 ≤ N ∧ N ≤ F.length ∧ cr 0 (pdl F) (c 1) ∧ (∀ i, i + 2 ≤ N → Inv (c i) (c (i + 1))) ∧ ∀ i, i + 3 ≤ N → ∃ R, R ≠ [] ∧ rr (c i) (c (i + 1)) R ∧ c (i + 2) = png R
/-- the last is a number, or divides the one before -/
def che (c : Nat → List Int) (N : Nat) : Prop := (c (N - 1)).length = 1 ∨ rr (c (N - 2)) (c (N - 1)) []
theorem makeChain_136 {s1 : im_S} {K81 : Int × im_S → Prop} {z : Int} {R : List Int} {M : Nat} {Q : im_S → Prop} (hz : pol s1 z R) (hM : plb R M) (h0 : 0 ≤ wgf s1 24) (hm : wgf s1 24 + 9 * ((M : Int) + 1) + 20 ≤ 684000) (h29 : 0 ≤ wgf s1 29 ∧ wgf s1 29 < 12) (hK : ∀ s' s9, pc z s1 s' → pol s' z (png R) → wgf s' 24 ≤ wgf s1 24 + 9 * ((M : Int) + 1) → s9 = wpf (wpa s' 600 (wgf s1 29) z) 29 (wgf s1 29 + 1) → K81 ((if (R.length : Int) - 1 ≤ 0 then 0 else 1), s9)) : wloop (fun (K : Int × im_S → Prop) (a : Int × im_S) => W_makeChain_136 K81 K z a.1 a.2 Q) (0, s1) := by
  obtain ⟨z1, z2, z3, z4, z5, z6⟩ := hz
  have hzb : 0 ≤ z ∧ z < 1200 := ⟨z1, by omega⟩
  have u0 : (0 : Int) ≤ (M : Int) + 1 := by omega
  refine ⟨fun a => ∃ k : Nat, a.1 = k ∧ k ≤ R.length ∧ pc z s1 a.2 ∧ wga a.2 598 z = (R.length : Int) - 1 ∧ (∀ j : Nat, j < k → nm a.2 (wga a.2 599 (9 * z + j)) (-pgt R j)) ∧ (∀ j : Nat, k ≤ j → j < R.length → nm a.2 (wga a.2 599 (9 * z + j)) (pgt R j)) ∧ wgf a.2 24 ≤ wgf s1 24 + k * ((M : Int) + 1), fun a => ((R.length : Int) - a.1).toNat, ⟨0, rfl, by omega, pc_rfl, z5, fun j hj => by omega, fun j _ hj => z6 j hj, by dsimp only; omega⟩, ?_⟩
  rintro ⟨k0, s2⟩ ⟨k, i1, i2, i3, i4, i5, i6, i7⟩
  dsimp only at i1 i2 i3 i4 i5 i6 i7 ⊢
  subst i1
  unfold W_makeChain_136
  have i32 := i3.2.2
  have e28 := pc_28 i3
  have e29 : wgf s2 29 = wgf s1 29 := pc_f i3 (by decide) (by decide)
  have m0 : (k : Int) * ((M : Int) + 1) ≤ 9 * ((M : Int) + 1) := Int.mul_le_mul_of_nonneg_right (by omega) u0
  refine ⟨hzb, fun c => ⟨by rw [e29]; exact h29, fun s6 e6 => ⟨?_, fun s9 e9 => ⟨hzb, fun v hv => ?_⟩⟩⟩, fun c => ?_⟩
  · rw [e6, wf_pa, e29]; exact ⟨by omega, by omega⟩
  · have ek : k = R.length := by omega
    subst ek
    unfold W_makeChain_211
    have e9' : s9 = wpf (wpa s2 600 (wgf s1 29) z) 29 (wgf s1 29 + 1) := by rw [e9, e6, wf_pa, e29]
    have ev : v = (if (R.length : Int) - 1 ≤ 0 then 0 else 1) := by
      rw [hv, e9', wg_pf, wg_row (by decide), i4]
    rw [ev]
    refine hK s2 s9 i3 ⟨z1, by omega, by omega, by rw [png_len]; exact z4, by rw [png_len]; exact i4, fun j hj => ?_⟩ (by omega) e9'
    rw [png_gt]
    exact i5 j (by rw [png_len] at hj; exact hj)
  · have hk : k < R.length := by omega
    have m1 : ((k : Int) + 1) * ((M : Int) + 1) ≤ 9 * ((M : Int) + 1) := Int.mul_le_mul_of_nonneg_right (by omega) u0
    have m2 := km_s k ((M : Int) + 1)
    have m3 : ((k : Int) + 1) * ((M : Int) + 1) = k * ((M : Int) + 1) + ((M : Int) + 1) := by rw [Int.add_mul, Int.one_mul]
    have lk := hM k
    refine at_ok hzb.1 hzb.2 (by omega) (by omega) (less_ok (i6 k (Nat.le_refl _) hk) (by omega) (by omega) (fun s3 a3 n3 t3 => ?_))
    refine set_ok hzb.1 hzb.2 (by omega) (by omega) ⟨⟨by omega, by omega⟩, ⟨k + 1, by dsimp only; omega, by omega, ?_, ?_, fun j hj => ?_, fun j hj hj2 => ?_, ?_⟩, by dsimp only; omega⟩
    · exact pc_set (pc_tr i3 (st_pc a3)) hzb.1 (by omega) (by omega)
    · dsimp only; rw [wg_row (by decide), st_row a3 (by decide)]; exact i4
    · dsimp only
      by_cases q : j = k
      · subst q; exact en_new n3
      · exact en_old a3 hzb.1 q (i5 j (by omega))
    · exact en_old a3 hzb.1 (by omega) (i6 j (by omega) hj2)
    · dsimp only; rw [wf_pa, m2]; omega
theorem makeChain_81 {s0 s1 : im_S} {F : List Int} {c0 : Nat → List Int} {M : Nat} {C : Nat → Nat → Nat} {Inv : List Int → List Int → Prop} {Q : im_S → Prop} (hF9 : F.length ≤ 9) (hIn : ∀ A B R, Inv A B → 1 ≤ B.length → rr A B R → R ≠ [] → Inv B (png R)) (hB : ∀ A B, Inv A B → plb A M ∧ plb B M ∧ 1 ≤ A.length ∧ 1 ≤ B.length ∧ B.length < A.length ∧ (∀ n, B.length = n + 1 → pgt B n ≠ 0)) (hC : ∀ l m m' : Nat, l ≤ 9 → 1 ≤ m → m ≤ 9 → m' < m → rco l m M M + 10 * (M + 1) + C m m' ≤ C l m) (hs : pw [29] [600] (wgf s0 24) (wgf s0 28) s0 s1) (hs2 : wgf s0 24 ≤ wgf s1 24) (hs3 : wgf s0 28 ≤ wgf s1 28) (hc : chs F Inv c0 2) (hch : chn s1 c0 2 M) (hp : wgf s1 28 + F.length ≤ 1200) (h0 : 0 ≤ wgf s0 24) (h28 : 0 ≤ wgf s0 28) (hm : wgf s1 24 + C F.length (c0 1).length + 400 * ((M : Int) + 1) + 100 ≤ 684000) (hQ : ∀ s' c N, pw [29] [600] (wgf s0 24) (wgf s0 28) s0 s' → wgf s0 24 ≤ wgf s' 24 → wgf s0 28 ≤ wgf s' 28 → wgf s' 28 ≤ wgf s1 28 + F.length → chs F Inv c N → che c N → chn s' c N M → wgf s' 24 ≤ wgf s1 24 + C F.length (c0 1).length → Q s') : wloop (fun (K : Int × im_S → Prop) (a : Int × im_S) => W_makeChain_81 K a.1 a.2 Q) (1, s1) := by
  have hdl : (pdl F).length = F.length - 1 := pmk_len _ _
  refine ⟨fun a => ∃ (c : Nat → List Int) (N : Nat), pw [29] [600] (wgf s0 24) (wgf s0 28) s0 a.2 ∧ wgf s0 24 ≤ wgf a.2 24 ∧ wgf s0 28 ≤ wgf a.2 28 ∧ chs F Inv c N ∧ chn a.2 c N M ∧ (a.1 = 0 ∧ che c N ∧ wgf a.2 24 ≤ wgf s1 24 + C F.length (c0 1).length ∧ wgf a.2 28 ≤ wgf s1 28 + F.length ∨ a.1 = 1 ∧ (c (N - 1)).length + N ≤ F.length + 1 ∧ wgf a.2 24 + C (c (N - 2)).length (c (N - 1)).length ≤ wgf s1 24 + C F.length (c0 1).length ∧ wgf a.2 28 + (c (N - 1)).length ≤ wgf s1 28 + F.length), fun a => (a.1 * (wga a.2 598 (wga a.2 600 (wgf a.2 29 - 1)) + 2)).toNat, ⟨c0, 2, hs, hs2, hs3, hc, hch, Or.inr ⟨rfl, ?_, ?_, ?_⟩⟩, ?_⟩
  · have := hc.2.2.2.1.1
    have := hc.2.2.1
    show (c0 1).length + 2 ≤ _
    omega
  · show wgf s1 24 + C (c0 0).length (c0 1).length ≤ _
    rw [hc.1]
    exact Int.le_refl _
  · have := hc.2.2.2.1.1
    show wgf s1 28 + (c0 1).length ≤ _
    omega
  rintro ⟨more, s2⟩ ⟨c, N, i1, i2, i3, i4, i5, i6⟩
  dsimp only at i1 i2 i3 i4 i5 i6 ⊢
  unfold W_makeChain_81
  refine ⟨fun e => ?_, fun e => ?_⟩
  · rcases i6 with q | q
    · exact hQ s2 c N i1 i2 i3 q.2.2.2 i4 q.2.1 i5 q.2.2.1
    · omega
  · rcases i6 with q | ⟨q1, q2, q3, q4⟩
    · exact absurd q.1 e
    subst q1
    obtain ⟨j1, j2, j3⟩ := i5
    have hN2 := i4.2.1
    have hN9 := i4.2.2.1
    obtain ⟨N', hN'⟩ : ∃ N', N = N' + 2 := ⟨N - 2, by omega⟩
    subst hN'
    rw [show N' + 2 - 1 = N' + 1 by omega] at q2 q3 q4
    rw [show N' + 2 - 2 = N' by omega] at q3
    have hI := i4.2.2.2.2.1 N' (by omega)
    obtain ⟨b1, b2, b3, b4, b5, b6⟩ := hB _ _ hI
    have pA := (j3 N' (by omega)).1
    have pB := (j3 (N' + 1) (by omega)).1
    have e29 : wgf s2 29 - 2 = (N' : Int) := by rw [j1]; omega
    have e30 : wgf s2 29 - 1 = ((N' + 1 : Nat) : Int) := by rw [j1]; omega
    have lB := pB.2.2.2.1
    have lA := pA.2.2.2.1
    have hc0 := hC (c N').length (c (N' + 1)).length 0 lA b4 lB (by omega)
    have rl := rlm_le (c N').length (c (N' + 1)).length M M
    have rl2 : (c N').length * (M + 1) ≤ 9 * (M + 1) := Nat.mul_le_mul_right _ lA
    rw [e29, e30]
    refine ⟨⟨by omega, by omega⟩, ⟨by omega, by omega⟩, restOf_ok pA pB b1 b2 b6 b4 (by omega) (by omega) (by omega) (fun s3 R d1 d2 d3 d4 d5 d6 => ?_)⟩
    have dR := d3.2.2.2.2.1
    have d31 := d3.1
    have d32 := d3.2.1
    have d13 := d1.2.2.1
    refine ⟨⟨d31, by omega⟩, fun v hv => ?_⟩
    have i13 : pw [29] [600] (wgf s0 24) (wgf s0 28) s0 s3 := pw_tr i1 (ps_pw d1 i2 i3)
    have ch3 : chn s3 c (N' + 2) M := by
      refine ⟨by rw [ps_f d1 (by decide) (by decide) (by decide)]; exact j1, j2, fun k hk => ?_⟩
      rw [ps_r d1 (by decide) (by decide) (by decide)]
      have w := j3 k hk
      exact ⟨ps_pol d1 (by omega) w.1, w.2⟩
    have lR : R.length < (c (N' + 1)).length := by
      rcases d4 with q | q
      · rw [q.2]; exact q.1
      · exact q.2.1
    have hc1 := hC (c N').length (c (N' + 1)).length R.length lA b4 lB lR
    have q5 := pB.2.2.2.2.1
    have rank2 : (1 * (wga s2 598 (wga s2 600 (wgf s2 29 - 1)) + 2)).toNat = (c (N' + 1)).length + 1 := by
      rw [e30, q5]; omega
    rw [e30] at rank2
    refine ⟨fun ev => ?_, fun ev => ?_⟩
    · have eR : R = [] := by
        refine List.eq_nil_of_length_eq_zero ?_
        rw [hv] at ev
        split at ev <;> omega
      subst eR
      unfold W_makeChain_211
      refine ⟨⟨c, N' + 2, i13, by dsimp only; omega, by dsimp only; omega, i4, ch3, Or.inl ⟨ev, Or.inr ?_, by dsimp only; omega, by dsimp only; omega⟩⟩, ?_⟩
      · rw [show N' + 2 - 1 = N' + 1 by omega, show N' + 2 - 2 = N' by omega]
        exact d4
      · dsimp only
        rw [rank2, ev]
        omega
    · have eR : R ≠ [] := by
        intro q
        rw [q] at dR
        rw [hv, if_pos (by rw [dR]; decide)] at ev
        exact ev rfl
      have R1 : 1 ≤ R.length := by
        rcases Nat.eq_zero_or_pos R.length with q | q
        · exact absurd (List.eq_nil_of_length_eq_zero q) eR
        · exact q
      have hI2 := hIn _ _ _ hI b4 d4 eR
      obtain ⟨b1', b2', b3', b4', b5', b6'⟩ := hB _ _ hI2
      have lbR : plb R M := fun k => by
        have w := b2' k
        rw [png_gt, lim_neg] at w
        exact w
      have e29' : wgf s3 29 = ((N' + 2 : Nat) : Int) := ch3.1
      refine makeChain_136 d3 lbR (by omega) (by omega) ⟨by omega, by omega⟩ (fun s' s9 g1 g2 g3 e9 => ?_)
      have g28 := pc_28 g1
      have g12 := g1.2.2
      have t9 : wgf s9 24 = wgf s' 24 := by rw [e9, wf_ne (by decide)]; rfl
      have t28 : wgf s9 28 = wgf s' 28 := by rw [e9, wf_ne (by decide)]; rfl
      have t29 : wgf s9 29 = wgf s3 29 + 1 := by rw [e9]; exact wf_same
      have r9 : ∀ (r : Nat) (i : Int), r ≠ 600 → wga s9 r i = wga s' r i := fun r i hr => by
        rw [e9, wg_pf]; exact wg_row hr
      have n9 : ∀ x X : Int, nm s' x X → nm s9 x X := fun x X w => by
        refine ⟨num_co w.1 w.1.1 w.1.2.1 (fun k _ _ => r9 597 _ (by decide)), by rw [t9]; exact w.2⟩
      have p9 : ∀ (f : Int) (P : List Int), pol s' f P → pol s9 f P := fun f P w => by
        obtain ⟨w1, w2, w3, w4, w5, w6⟩ := w
        refine ⟨w1, by omega, by omega, w4, by rw [r9 598 f (by decide)]; exact w5, fun k hk => ?_⟩
        rw [r9 599 _ (by decide)]
        exact n9 _ _ (w6 k hk)
      have c9o : ∀ k : Nat, k < N' + 2 → wga s9 600 k = wga s2 600 k := fun k hk => by
        rw [e9, wg_pf, wg_ne (by omega) (by omega) (by omega)]
        have w1 : wga s' 600 (k : Int) = wga s3 600 (k : Int) := g1.2.1 600 k (by omega) (by omega) (by omega)
        rw [w1]
        exact ps_r d1 (by decide) (by decide) (by decide)
      have c9n : wga s9 600 ((N' + 2 : Nat) : Int) = wgf s2 28 := by
        rw [e9, wg_pf, e29']
        exact wg_same
      obtain ⟨c', hn', ho'⟩ : ∃ c' : Nat → List Int, c' (N' + 2) = png R ∧ ∀ k, k ≠ N' + 2 → c' k = c k := ⟨fun k => if k = N' + 2 then png R else c k, if_pos rfl, fun k hk => if_neg hk⟩
      have hcN : chn s9 c' (N' + 3) M := by
        refine ⟨by rw [t29, e29']; omega, by omega, fun k hk => ?_⟩
        by_cases ek : k = N' + 2
        · subst ek
          rw [c9n, hn']
          exact ⟨p9 _ _ g2, b2', by rw [png_len]; exact R1⟩
        · rw [ho' k ek, c9o k (by omega)]
          have w := j3 k (by omega)
          have w2 := ps_pol d1 (by omega) w.1
          have w3 : wga s2 600 (k : Int) ≠ wgf s2 28 := by
            have := w.1.2.1
            omega
          exact ⟨p9 _ _ (pc_pol g1 w3 w2), w.2⟩
      have hcs : chs F Inv c' (N' + 3) := by
        refine ⟨by rw [ho' 0 (by omega)]; exact i4.1, by omega, by omega, by rw [ho' 1 (by omega)]; exact i4.2.2.2.1, fun i hi => ?_, fun i hi => ?_⟩
        · by_cases ei : i = N' + 1
          · subst ei
            rw [ho' _ (by omega), hn']
            exact hI2
          · rw [ho' _ (by omega), ho' _ (by omega)]
            exact i4.2.2.2.2.1 i (by omega)
        · by_cases ei : i = N'
          · subst ei
            refine ⟨R, eR, ?_, hn'⟩
            rw [ho' _ (by omega), ho' _ (by omega)]
            exact d4
          · rw [ho' _ (by omega), ho' _ (by omega), ho' _ (by omega)]
            exact i4.2.2.2.2.2 i (by omega)
      have i19 : pw [29] [600] (wgf s0 24) (wgf s0 28) s0 s9 := by
        rw [e9]
        exact pw_pf (pw_pa (pw_tr i13 (pc_pw g1 (by omega) (by omega))) (List.mem_singleton.2 rfl)) (Or.inr (Or.inr (Or.inr (List.mem_singleton.2 rfl))))
      have m9 : wgf s9 29 - 1 = ((N' + 2 : Nat) : Int) := by omega
      have deg9 : wga s9 598 (wga s9 600 (wgf s9 29 - 1)) = (R.length : Int) - 1 := by
        rw [m9, c9n, (p9 _ _ g2).2.2.2.2.1, png_len]
      by_cases cl : (R.length : Int) - 1 ≤ 0
      · rw [if_pos cl]
        refine ⟨⟨c', N' + 3, i19, by dsimp only; omega, by dsimp only; omega, hcs, hcN, Or.inl ⟨rfl, Or.inl ?_, by dsimp only; omega, by dsimp only; omega⟩⟩, ?_⟩
        · rw [show N' + 3 - 1 = N' + 2 by omega, hn', png_len]; omega
        · dsimp only
          rw [rank2]
          omega
      · rw [if_neg cl]
        refine ⟨⟨c', N' + 3, i19, by dsimp only; omega, by dsimp only; omega, hcs, hcN, Or.inr ⟨rfl, ?_, ?_, ?_⟩⟩, ?_⟩
        · rw [show N' + 3 - 1 = N' + 2 by omega, hn', png_len]; omega
        · rw [show N' + 3 - 1 = N' + 2 by omega, show N' + 3 - 2 = N' + 1 by omega, hn', ho' _ (by omega), png_len]
          dsimp only
          omega
        · rw [show N' + 3 - 1 = N' + 2 by omega, hn', png_len]
          dsimp only
          omega
        · dsimp only
          rw [rank2, deg9]
          omega
