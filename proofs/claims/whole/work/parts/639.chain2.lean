/-! THE REFERENCE'S POLYNOMIALS: makeChain, stay, giveBack, comeBack, polynomialOf -/
theorem nm_pf {s : im_S} {f : Nat} {x y Y : Int} (hf : f ≠ 24) (h : nm s y Y) : nm (wpf s f x) y Y := ⟨num_co h.1 h.1.1 h.1.2.1 (fun _ _ _ => rfl), by rw [wf_ne (Ne.symm hf)]; exact h.2⟩
theorem pol_pf {s : im_S} {f : Nat} {g x : Int} {P : List Int} (hf : f ≠ 24) (hf2 : f ≠ 28) (h : pol s g P) : pol (wpf s f x) g P := by
  obtain ⟨h1, h2, h3, h4, h5, h6⟩ := h
  refine ⟨h1, by rw [wf_ne (Ne.symm hf2)]; exact h2, by rw [wf_ne (Ne.symm hf2)]; exact h3, h4, h5, fun k hk => nm_pf hf (h6 k hk)⟩
theorem pol_pa {s : im_S} {c : Nat} {g i x : Int} {P : List Int} (h0 : c ≠ 597) (h1 : c ≠ 598) (h2 : c ≠ 599) (h : pol s g P) : pol (wpa s c i x) g P := by
  obtain ⟨p1, p2, p3, p4, p5, p6⟩ := h
  refine ⟨p1, p2, p3, p4, by rw [wg_row (Ne.symm h1)]; exact p5, fun k hk => ?_⟩
  rw [wg_row (Ne.symm h2)]
  exact nm_row h0 (p6 k hk)
theorem makeChain_ok {s : im_S} {f : Int} {F : List Int} {M : Nat} {C : Nat → Nat → Nat} {Inv : List Int → List Int → Prop} {Q : im_S → Prop} (hf : pol s f F) (h1 : 1 ≤ F.length) (hM : plb F M) (hI0 : ∀ R, 2 ≤ F.length → cr 0 (pdl F) R → Inv F R) (hIn : ∀ A B R, Inv A B → 1 ≤ B.length → rr A B R → R ≠ [] → Inv B (png R)) (hB : ∀ A B, Inv A B → plb A M ∧ plb B M ∧ 1 ≤ A.length ∧ 1 ≤ B.length ∧ B.length < A.length ∧ (∀ n, B.length = n + 1 → pgt B n ≠ 0)) (hC : ∀ l m m' : Nat, l ≤ 9 → 1 ≤ m → m ≤ 9 → m' < m → rco l m M M + 10 * (M + 1) + C m m' ≤ C l m) (hC9 : ∀ l m : Nat, l ≤ 9 → m ≤ 9 → C l m ≤ C 9 9) (hp : wgf s 28 + 2 + F.length ≤ 1200) (h0 : 0 ≤ wgf s 24) (hm : wgf s 24 + C 9 9 + 500 * ((M : Int) + 2) + 200 ≤ 684000) (hQ1 : ∀ s', F.length = 1 → pw [29] [600] (wgf s 24) (wgf s 28) s s' → wgf s' 24 = wgf s 24 → wgf s' 28 = wgf s 28 + 1 → chn s' (fun _ => F) 1 M → Q s') (hQ2 : ∀ s' c N, 2 ≤ F.length → pw [29] [600] (wgf s 24) (wgf s 28) s s' → wgf s 24 ≤ wgf s' 24 → wgf s 28 ≤ wgf s' 28 → wgf s' 28 ≤ wgf s 28 + 2 + F.length → chs F Inv c N → che c N → chn s' c N M → wgf s' 24 ≤ wgf s 24 + C 9 9 + 45 * ((M : Int) + 2) + 1 → Q s') : W_makeChain f s Q := by
  unfold W_makeChain
  intro s1 e1
  have f1 := hf.1
  have f2 := hf.2.1
  have f4 := hf.2.2.2.1
  have hfb : 0 ≤ f ∧ f < 1200 := ⟨f1, by omega⟩
  have t24 : wgf s1 24 = wgf s 24 := by rw [e1]; exact wf_ne (by decide)
  have t28 : wgf s1 28 = wgf s 28 := by rw [e1]; exact wf_ne (by decide)
  have t29 : wgf s1 29 = 1 := by rw [e1]; exact wf_same
  have hf1 : pol s1 f F := by rw [e1]; exact pol_pf (by decide) (by decide) hf
  have w1 : pw [29] [600] (wgf s 24) (wgf s 28) s s1 := by rw [e1]; exact pw_pf pw_rfl (Or.inr (Or.inr (Or.inr (List.mem_singleton.2 rfl))))
  refine ⟨hfb, newPolynomial_ok (by omega) (by omega) (fun s2 a1 a2 a3 a4 a5 => ?_)⟩
  obtain ⟨z, hz⟩ : ∃ z, z = wgf s1 28 := ⟨_, rfl⟩
  rw [← hz] at a2 a4 ⊢
  have hzb : 0 ≤ z ∧ z < 1200 := ⟨by omega, by omega⟩
  have hf2 := ps_pol a1 (by omega) hf1
  obtain ⟨g1, g2, g3, g4, g5, g6⟩ := hf2
  refine ⟨fun a => ∃ k : Nat, a.1 = k ∧ k ≤ F.length ∧ pc z s2 a.2 ∧ wgf a.2 24 = wgf s 24 ∧ wga a.2 598 z = (F.length : Int) - 1 ∧ ∀ j : Nat, j < k → nm a.2 (wga a.2 599 (9 * z + j)) (pgt F j), fun a => ((F.length : Int) - a.1).toNat, ⟨0, rfl, by omega, pc_rfl, by dsimp only; omega, by dsimp only; rw [a4]; exact hf1.2.2.2.2.1, fun j hj => by omega⟩, ?_⟩
  rintro ⟨k0, s3⟩ ⟨k, i1, i2, i3, i5, i6, i7⟩
  dsimp only at i1 i2 i3 i5 i6 i7 ⊢
  subst i1
  unfold W_makeChain_18
  have z28 := pc_28 i3
  have df : wga s3 598 f = (F.length : Int) - 1 := by rw [pc_d i3 f1 (by omega)]; exact g5
  have w3 : pw [29] [600] (wgf s 24) (wgf s 28) s s3 := pw_tr w1 (pw_tr (ps_pw a1 (by omega) (by omega)) (pc_pw i3 (by omega) (by omega)))
  refine ⟨hfb, fun c => ⟨⟨by decide, by decide⟩, fun s4 e4 => ⟨hfb, fun c2 => ?_, fun c2 => ?_⟩⟩, fun c => ?_⟩
  · have ek : k = F.length := by omega
    have d4 : wga s4 598 f = (F.length : Int) - 1 := by rw [e4, wg_row (by decide)]; exact df
    have p4 : pol s4 f F := by rw [e4]; exact pol_pa (by decide) (by decide) (by decide) (pc_pol i3 (by omega) ⟨g1, g2, g3, g4, g5, g6⟩)
    have pz4 : pol s4 z F := by
      rw [e4]
      exact pol_pa (by decide) (by decide) (by decide) ⟨hzb.1, by omega, by omega, g4, i6, fun j hj => i7 j (by omega)⟩
    have t4 : wgf s4 24 = wgf s 24 := by rw [e4, wf_pa]; exact i5
    have t428 : wgf s4 28 = wgf s 28 + 1 := by rw [e4, wf_pa]; omega
    have w4 : pw [29] [600] (wgf s 24) (wgf s 28) s s4 := by rw [e4]; exact pw_pa w3 (List.mem_singleton.2 rfl)
    have c40 : wga s4 600 0 = z := by rw [e4]; exact wg_same
    have mm : (F.length : Int) * ((M : Int) + 2) ≤ 9 * ((M : Int) + 2) := Int.mul_le_mul_of_nonneg_right (by omega) (by omega)
    refine derivative_ok p4 hM h1 (by omega) (by omega) (by omega) (fun s5 R b1 b2 b3 b4 b5 => ⟨⟨by decide, by decide⟩, fun s6 e6 s7 e7 => ?_⟩)
    have h2 : 2 ≤ F.length := by omega
    have hI := hI0 R h2 b4
    obtain ⟨q1, q2, q3, q4, q5, q6⟩ := hB _ _ hI
    have t7 : wgf s7 24 = wgf s5 24 := by rw [e7, wf_ne (by decide), e6, wf_pa]
    have t728 : wgf s7 28 = wgf s5 28 := by rw [e7, wf_ne (by decide), e6, wf_pa]
    have t729 : wgf s7 29 = 2 := by rw [e7]; exact wf_same
    have r7 : ∀ (f : Int) (P : List Int), pol s5 f P → pol s7 f P := fun f P w => by
      rw [e7, e6]; exact pol_pf (by decide) (by decide) (pol_pa (by decide) (by decide) (by decide) w)
    have b13 := b1.2.2.1
    have c70 : wga s7 600 0 = z := by rw [e7, wg_pf, e6, wg_ne (by decide) (by decide) (by decide), ps_r b1 (by decide) (by decide) (by decide)]; exact c40
    have c71 : wga s7 600 1 = wgf s4 28 := by rw [e7, wg_pf, e6]; exact wg_same
    have w7 : pw [29] [600] (wgf s 24) (wgf s 28) s s7 := by
      rw [e7, e6]
      exact pw_pf (pw_pa (pw_tr w4 (ps_pw b1 (by omega) (by omega))) (List.mem_singleton.2 rfl)) (Or.inr (Or.inr (Or.inr (List.mem_singleton.2 rfl))))
    obtain ⟨c', h0', h1'⟩ : ∃ c' : Nat → List Int, c' 0 = F ∧ c' 1 = R := ⟨fun k => if k = 0 then F else R, if_pos rfl, if_neg (by decide)⟩
    have hcs : chs F Inv c' 2 := by
      refine ⟨h0', by omega, h2, by rw [h1']; exact b4, fun i hi => ?_, fun i hi => by omega⟩
      have ei : i = 0 := by omega
      subst ei
      rw [h0', show 0 + 1 = 1 from rfl, h1']
      exact hI
    have hcn : chn s7 c' 2 M := by
      refine ⟨t729, by omega, fun k hk => ?_⟩
      by_cases e : k = 0
      · subst e
        rw [h0']
        show pol s7 (wga s7 600 0) F ∧ _
        rw [c70]
        exact ⟨r7 _ _ (ps_pol b1 (by omega) pz4), hM, h1⟩
      · have e2 : k = 1 := by omega
        subst e2
        rw [h1']
        show pol s7 (wga s7 600 1) R ∧ _
        rw [c71]
        exact ⟨r7 _ _ b3, q2, q4⟩
    have c9 := hC9 F.length (c' 1).length f4 (by rw [h1']; have := b3.2.2.2.1; exact this)
    refine makeChain_81 (s0 := s) f4 hIn hB hC w7 (by omega) (by omega) hcs hcn (by omega) h0 (by omega) (by omega) (fun s' c N v1 v2 v3 v4 v5 v6 v7 v8 => hQ2 s' c N h2 v1 v2 v3 (by omega) v5 v6 v7 (by omega))
  · have d4 : wga s4 598 f = (F.length : Int) - 1 := by rw [e4, wg_row (by decide)]; exact df
    have hl : F.length = 1 := by omega
    have ek : k = F.length := by omega
    refine hQ1 s4 hl (by rw [e4]; exact pw_pa w3 (List.mem_singleton.2 rfl)) (by rw [e4, wf_pa]; exact i5) (by rw [e4, wf_pa]; omega) ⟨?_, by omega, fun k hk => ?_⟩
    · rw [e4, wf_pa, pc_f i3 (by decide) (by decide), ps_f a1 (by decide) (by decide) (by decide)]; exact t29
    · have e : k = 0 := by omega
      subst e
      refine ⟨?_, hM, h1⟩
      show pol s4 (wga s4 600 0) F
      rw [e4, wg_same]
      exact pol_pa (by decide) (by decide) (by decide) ⟨hzb.1, by omega, by omega, g4, i6, fun j hj => i7 j (by omega)⟩
  · have hk : k < F.length := by omega
    refine at_ok hfb.1 hfb.2 (by omega) (by omega) (set_ok hzb.1 hzb.2 (by omega) (by omega) ⟨⟨by omega, by omega⟩, ⟨k + 1, by dsimp only; omega, by omega, ?_, ?_, ?_, fun j hj => ?_⟩, by dsimp only; omega⟩)
    · exact pc_set i3 hzb.1 (by omega) (by omega)
    · dsimp only; rw [wf_pa]; exact i5
    · dsimp only; rw [wg_row (by decide)]; exact i6
    · dsimp only
      by_cases q : j = k
      · subst q
        refine en_new ?_
        rw [pc_p i3 (by omega) (by omega)]
        exact pc_nm i3 (g6 j hk)
      · exact en_old st_rfl hzb.1 q (i7 j (by omega))
/-! numbers that stay in the row 601 -/
def mvn (s : im_S) (i X : Int) : Prop := ∃ (s0 : im_S) (x : Int), num s0 x X ∧ ∀ t : Int, 0 ≤ t → t ≤ lim X → wga s 601 (i + t) = wga s0 597 (x + t)
def ofs (P : List Int) : Nat → Int
  | 0 => 1
  | k + 1 => ofs P k + lim (pgt P k) + 1
theorem ofs_mono (P : List Int) : ∀ k j : Nat, ofs P k + j ≤ ofs P (k + j)
  | k, 0 => by show ofs P k + 0 ≤ ofs P k; omega
  | k, j + 1 => by
    have a := ofs_mono P k j
    show ofs P k + ((j + 1 : Nat) : Int) ≤ ofs P (k + j) + lim (pgt P (k + j)) + 1
    omega
theorem ofs_pos (P : List Int) (k : Nat) : 1 ≤ ofs P k := by
  have a := ofs_mono P 0 k
  rw [Nat.zero_add] at a
  have : ofs P 0 = 1 := rfl
  omega
theorem ofs_lt (P : List Int) {k n : Nat} (h : k < n) : ofs P k + lim (pgt P k) + 1 ≤ ofs P n := by
  have a := ofs_mono P (k + 1) (n - (k + 1))
  rw [show k + 1 + (n - (k + 1)) = n by omega] at a
  have e : ofs P (k + 1) = ofs P k + lim (pgt P k) + 1 := rfl
  omega
def mvp (s : im_S) (i : Int) (P : List Int) : Prop := wga s 601 i = (P.length : Int) - 1 ∧ ∀ k : Nat, k < P.length → mvn s (i + ofs P k) (pgt P k)
/-- only the row 601 from i on, and field 32 -/
def sy (i : Int) (s s' : im_S) : Prop := (∀ c f : Nat, ¬ (c = 582 ∧ f = 32) → s'.1 c f = s.1 c f) ∧ (∀ c j : Nat, ¬ (c = 601 ∧ i ≤ (j : Int)) → s'.2 c j = s.2 c j)
theorem sy_rfl {i : Int} {s : im_S} : sy i s s := ⟨fun _ _ _ => rfl, fun _ _ _ => rfl⟩
theorem sy_tr {i : Int} {s s1 s2 : im_S} (h1 : sy i s s1) (h2 : sy i s1 s2) : sy i s s2 := ⟨fun c f h => (h2.1 c f h).trans (h1.1 c f h), fun c i q => (h2.2 c i q).trans (h1.2 c i q)⟩
theorem sy_mono {i j : Int} {s s1 : im_S} (h1 : sy i s s1) (h : j ≤ i) : sy j s s1 := ⟨h1.1, fun c k q => h1.2 c k (fun z => q ⟨z.1, by omega⟩)⟩
theorem sy_f {i : Int} {f : Nat} {s s' : im_S} (h : sy i s s') (hf : f ≠ 32) : wgf s' f = wgf s f := h.1 582 f (fun z => hf z.2)
theorem sy_r {i j : Int} {c : Nat} {s s' : im_S} (h : sy i s s') (hc : c ≠ 601) : wga s' c j = wga s c j := h.2 c j.toNat (fun z => hc z.1)
theorem sy_lo {i j : Int} {s s' : im_S} (h : sy i s s') (h0 : 0 ≤ j) (h1 : j < i) : wga s' 601 j = wga s 601 j := h.2 601 j.toNat (by omega)
theorem sy_pol {i f : Int} {P : List Int} {s s' : im_S} (h : sy i s s') (hp : pol s f P) : pol s' f P := by
  obtain ⟨p1, p2, p3, p4, p5, p6⟩ := hp
  have e28 := sy_f (f := 28) h (by decide)
  have e24 := sy_f (f := 24) h (by decide)
  refine ⟨p1, by omega, by omega, p4, by rw [sy_r h (by decide)]; exact p5, fun k hk => ?_⟩
  rw [sy_r h (by decide)]
  have z := p6 k hk
  exact ⟨num_co z.1 z.1.1 z.1.2.1 (fun t _ _ => sy_r h (by decide)), by rw [e24]; exact z.2⟩
theorem sy_pf {i x : Int} {s s' : im_S} (h : sy i s s') : sy i s (wpf s' 32 x) := ⟨fun c g q => by
  have e : (wpf s' 32 x).1 c g = s'.1 c g := im_up_ne (fun z => q z)
  rw [e]
  exact h.1 c g q, h.2⟩
theorem sy_pa {i j x : Int} {s s' : im_S} (h : sy i s s') (h0 : 0 ≤ j) (h1 : i ≤ j) : sy i s (wpa s' 601 j x) := ⟨h.1, fun d k q => by
  have e : (wpa s' 601 j x).2 d k = s'.2 d k := im_up_ne (fun z => q ⟨z.1, by have := z.2; omega⟩)
  rw [e]
  exact h.2 d k q⟩
theorem sy_mvn {i j X : Int} {s s' : im_S} (h : sy i s s') (h0 : 0 ≤ j) (h1 : j + lim X < i) (hm : mvn s j X) : mvn s' j X := by
  obtain ⟨s0, x, a, b⟩ := hm
  exact ⟨s0, x, a, fun t q1 q2 => by rw [sy_lo h (by omega) (by omega)]; exact b t q1 q2⟩
theorem sy_mvp {i j : Int} {P : List Int} {s s' : im_S} (h : sy i s s') (h0 : 0 ≤ j) (h1 : j + ofs P P.length ≤ i) (hm : mvp s j P) : mvp s' j P := by
  have a := ofs_pos P P.length
  refine ⟨by rw [sy_lo h h0 (by omega)]; exact hm.1, fun k hk => ?_⟩
  have b := ofs_lt P hk
  have c := ofs_pos P k
  exact sy_mvn h (by omega) (by omega) (hm.2 k hk)
theorem stay_ok {s : im_S} {f : Int} {P : List Int} {Q : im_S → Prop} (hf : pol s f P) (h0 : 0 ≤ wgf s 32) (hm : wgf s 32 + ofs P P.length ≤ 20000) (hQ : ∀ s', sy (wgf s 32) s s' → wgf s' 32 = wgf s 32 + ofs P P.length → mvp s' (wgf s 32) P → Q s') : W_stay f s Q := by
  unfold W_stay
  have hfb : 0 ≤ f ∧ f < 1200 := ⟨hf.1, by have := hf.2.1; have := hf.2.2.1; omega⟩
  have op := ofs_pos P P.length
  obtain ⟨i, hi⟩ : ∃ i, i = wgf s 32 := ⟨_, rfl⟩
  rw [← hi] at h0 hm hQ ⊢
  refine ⟨hfb, ⟨h0, by omega⟩, fun s1 e1 => ⟨?_, fun s2 e2 => ?_⟩⟩
  · rw [e1, wf_pa, ← hi]; exact ⟨by omega, by omega⟩
  have y2 : sy i s s2 := by rw [e2, e1]; exact sy_pf (sy_pa sy_rfl h0 (Int.le_refl _))
  have t2 : wgf s2 32 = i + ofs P 0 := by
    rw [e2, wf_same, e1, wf_pa, ← hi]; rfl
  have d2 : wga s2 601 i = (P.length : Int) - 1 := by rw [e2, wg_pf, e1, wg_same]; exact hf.2.2.2.2.1
  refine ⟨fun a => ∃ k : Nat, a.1 = k ∧ k ≤ P.length ∧ sy i s a.2 ∧ wgf a.2 32 = i + ofs P k ∧ wga a.2 601 i = (P.length : Int) - 1 ∧ ∀ j : Nat, j < k → mvn a.2 (i + ofs P j) (pgt P j), fun a => ((P.length : Int) - a.1).toNat, ⟨0, rfl, by omega, y2, t2, d2, fun j hj => by omega⟩, ?_⟩
  rintro ⟨k0, s3⟩ ⟨k, i1, i2, i3, i4, i5, i6⟩
  dsimp only at i1 i2 i3 i4 i5 i6 ⊢
  subst i1
  unfold W_stay_27
  have p3 := sy_pol i3 hf
  have dg := p3.2.2.2.2.1
  have l9 := p3.2.2.2.1
  refine ⟨hfb, fun c => ?_, fun c => ?_⟩
  · have ek : k = P.length := by omega
    subst ek
    exact hQ s3 i3 i4 ⟨i5, i6⟩
  · have hk : k < P.length := by omega
    have nk := p3.2.2.2.2.2 k hk
    have ol := ofs_lt P hk
    have oo := ofs_pos P k
    refine at_ok hfb.1 hfb.2 (by omega) (by omega) ?_
    generalize wga s3 599 (9 * f + (k : Int)) = x at nk ⊢
    refine ⟨fun a => ∃ t : Nat, a.1 = t ∧ t ≤ lim (pgt P k) + 1 ∧ sy (i + ofs P k) s3 a.2 ∧ wgf a.2 32 = i + ofs P k + t ∧ ∀ u : Int, 0 ≤ u → u < t → wga a.2 601 (i + ofs P k + u) = wga s3 597 (x + u), fun a => ((lim (pgt P k) : Int) + 1 - a.1).toNat, ⟨0, rfl, by omega, sy_rfl, by dsimp only; omega, fun u a b => by omega⟩, ?_⟩
    rintro ⟨t0, s4⟩ ⟨t, j1, j2, j3, j4, j5⟩
    dsimp only at j1 j2 j3 j4 j5 ⊢
    subst j1
    unfold W_stay_47
    have n4 : num s4 x (pgt P k) := num_co nk.1 nk.1.1 nk.1.2.1 (fun t _ _ => sy_r j3 (by decide))
    have x0 := nk.1.1
    have x1 := nk.1.2.1
    refine limbs_ok n4 ⟨fun c3 => ⟨⟨by omega, by omega⟩, ?_⟩, fun c3 => ⟨⟨by omega, by omega⟩, ⟨by omega, by omega⟩, fun s5 e5 => ⟨?_, fun s6 e6 => ⟨⟨by omega, by omega⟩, ⟨t + 1, by dsimp only; omega, by omega, ?_, ?_, fun u a b => ?_⟩, by dsimp only; omega⟩⟩⟩⟩
    · have et : t = lim (pgt P k) + 1 := by omega
      refine ⟨⟨k + 1, by dsimp only; omega, by omega, sy_tr i3 (sy_mono j3 (by omega)), ?_, ?_, fun j hj => ?_⟩, by dsimp only; omega⟩
      · dsimp only
        rw [j4, et]
        show _ = i + (ofs P k + lim (pgt P k) + 1)
        omega
      · dsimp only
        rw [sy_lo j3 (by omega) (by omega)]; exact i5
      · dsimp only
        by_cases q : j = k
        · subst q
          exact ⟨s3, x, nk.1, fun u a b => j5 u a (by omega)⟩
        · have o2 := ofs_lt P (show j < k by omega)
          have o3 := ofs_pos P j
          exact sy_mvn j3 (by omega) (by omega) (i6 j (by omega))
    · rw [e5, wf_pa]; exact ⟨by omega, by omega⟩
    · rw [e6, e5, j4]
      exact sy_pf (sy_pa j3 (by omega) (by omega))
    · dsimp only
      rw [e6, wf_same, e5, wf_pa, j4]; omega
    · dsimp only
      rw [e6, wg_pf, e5, j4]
      by_cases q : u = t
      · subst q
        rw [wg_same]
        exact sy_r j3 (by decide)
      · rw [wg_ne (by omega) (by omega) (by omega)]
        exact j5 u a (by omega)
