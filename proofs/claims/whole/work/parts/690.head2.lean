/-! findRoots: the greatest factor; what findRoots leaves as it was -/
theorem findRoots_37 {s : im_S} {b l2 l3 p x0 : Int} {P : List Int} {n : Nat} {Q : im_S → Prop} (hf : pol s p P) (hn : P.length = n + 1) (hab : pab P p27) (hx : nm s x0 0) (hX : ∀ (x G : Int), nm s x G → G.natAbs ≤ p27 → (∀ i : Nat, i < n → (pgt P i).natAbs ≤ G.natAbs) → wloop (fun (K : Int × im_S → Prop) (a : Int × im_S) => W_findRoots_85 K b l2 l3 p x a.1 a.2 Q) (1, s)) : wloop (fun (K : Int × Int × im_S → Prop) (a : Int × Int × im_S) => W_findRoots_37 K b l2 l3 p 1 a.1 a.2.1 a.2.2 Q) (x0, 0, s) := by
  obtain ⟨f1, f2, f3, f4, f5, f6⟩ := hf
  refine ⟨fun a => ∃ (k : Nat) (G : Int), a.2.1 = k ∧ k ≤ n ∧ a.2.2 = s ∧ nm s a.1 G ∧ G.natAbs ≤ p27 ∧ ∀ i : Nat, i < k → (pgt P i).natAbs ≤ G.natAbs, fun a => ((n : Int) - a.2.1).toNat, ⟨0, 0, rfl, by omega, rfl, hx, by decide, fun i hi => by omega⟩, ?_⟩
  rintro ⟨x, k0, s2⟩ ⟨k, G, i1, i2, i3, i4, i5, i6⟩
  dsimp only at i1 i2 i3 i4 i5 i6 ⊢
  subst i1
  subst i3
  unfold W_findRoots_37
  refine ⟨⟨f1, by omega⟩, fun c => ?_, fun c => at_ok f1 (by omega) (by omega) (by omega) ?_⟩
  · have ek : k = n := by omega
    subst ek
    exact hX x G i4 i5 i6
  · have nk := f6 k (by omega)
    have sc := sg_c (((pgt P k).natAbs : Int) - (G.natAbs : Int))
    refine weigh_ok nk.1 i4.1 (fun v ev => ⟨⟨by omega, by omega⟩, ?_, by dsimp only; omega⟩)
    by_cases q : sg (((pgt P k).natAbs : Int) - (G.natAbs : Int)) ≤ 0
    · rw [if_pos q] at ev
      refine ⟨k + 1, G, by dsimp only; omega, by omega, rfl, by rw [ev]; exact i4, i5, fun i hi => ?_⟩
      by_cases ei : i = k
      · subst ei; omega
      · exact i6 i (by omega)
    · rw [if_neg q] at ev
      refine ⟨k + 1, pgt P k, by dsimp only; omega, by omega, rfl, by rw [ev]; exact nk, hab k, fun i hi => ?_⟩
      by_cases ei : i = k
      · subst ei; omega
      · have := i6 i (by omega)
        omega
def fro (lo pl R : Int) (s s' : im_S) : Prop := (∀ c f : Nat, ¬ (c = 582 ∧ (f = 24 ∨ f = 25 ∨ f = 28 ∨ f = 29 ∨ f = 32 ∨ f = 33 ∨ f = 41 ∨ f = 52)) → s'.1 c f = s.1 c f) ∧ (∀ c i : Nat, ¬ (c = 597 ∧ lo ≤ (i : Int) ∧ (i : Int) < 700000 - 200 * R) → ¬ (c = 598 ∧ pl ≤ (i : Int)) → ¬ (c = 599 ∧ 9 * pl ≤ (i : Int)) → c ≠ 600 → c ≠ 601 → ¬ (607 ≤ c ∧ c ≤ 613 ∧ R ≤ (i : Int)) → c ≠ 615 → c ≠ 616 → s'.2 c i = s.2 c i)
theorem fro_tr {lo pl R : Int} {s s1 s2 : im_S} (h1 : fro lo pl R s s1) (h2 : fro lo pl R s1 s2) : fro lo pl R s s2 := ⟨fun c f h => (h2.1 c f h).trans (h1.1 c f h), fun c i q1 q2 q3 q4 q5 q6 q7 q8 => (h2.2 c i q1 q2 q3 q4 q5 q6 q7 q8).trans (h1.2 c i q1 q2 q3 q4 q5 q6 q7 q8)⟩
theorem fwr_fro {lo pl R lo' : Int} {s s' : im_S} (h : fwr lo' R s s') (hl : lo ≤ lo') : fro lo pl R s s' := ⟨fun c f q => h.1 c f (fun z => q ⟨z.1, by omega⟩), fun c i q1 _ _ _ _ q6 q7 q8 => h.2 c i (fun z => q1 ⟨z.1, by omega, z.2.2⟩) (fun z => q6 ⟨by omega, by omega, z.2⟩) q7 q8⟩
theorem pw_fro {fs rs : List Nat} {lo pl R lo' pl' : Int} {s s' : im_S} (h : pw fs rs lo' pl' s s') (hl : lo ≤ lo') (hp : pl ≤ pl') (hR : R ≤ 80) (hfs : ∀ f, f ∈ fs → f = 29 ∨ f = 32 ∨ f = 33) (hrs : ∀ c, c ∈ rs → c = 600 ∨ c = 601 ∨ c = 610 ∨ c = 613) (hlow : ∀ (c : Nat) (i : Int), (c = 610 ∨ c = 613) → 0 ≤ i → i < R → wga s' c i = wga s c i) : fro lo pl R s s' := by
  refine ⟨fun c f q => h.1 c f (fun z => q ⟨z.1, ?_⟩), fun c i q1 q2 q3 q4 q5 q6 q7 q8 => ?_⟩
  · rcases z.2 with e | e | e | e
    · omega
    · omega
    · omega
    · have := hfs f e
      omega
  · by_cases cm : (c = 610 ∨ c = 613) ∧ (i : Int) < R
    · exact hlow c i cm.1 (by omega) cm.2
    · refine h.2 c i (fun z => q1 ⟨z.1, by omega, by omega⟩) (fun z => q2 ⟨z.1, by omega⟩) (fun z => q3 ⟨z.1, by omega⟩) (fun z => ?_)
      rcases hrs c z with e | e | e | e
      · exact q4 e
      · exact q5 e
      · exact q6 ⟨by omega, by omega, by omega⟩
      · exact q6 ⟨by omega, by omega, by omega⟩
theorem fro_pol {R p : Int} {P : List Int} {s s' : im_S} (h : fro (wgf s 24) (wgf s 28) R s s') (h1 : wgf s 24 ≤ wgf s' 24) (h2 : wgf s 28 ≤ wgf s' 28) (h3 : wgf s' 28 ≤ 1200) (hp : pol s p P) : pol s' p P := by
  obtain ⟨f1, f2, f3, f4, f5, f6⟩ := hp
  have r8 : wga s' 598 p = wga s 598 p := h.2 598 p.toNat (by omega) (by omega) (by omega) (by decide) (by decide) (by omega) (by decide) (by decide)
  refine ⟨f1, by omega, h3, f4, by rw [r8]; exact f5, fun i hi => ?_⟩
  have r9 : wga s' 599 (9 * p + i) = wga s 599 (9 * p + i) := h.2 599 (9 * p + i).toNat (by omega) (by omega) (by omega) (by decide) (by decide) (by omega) (by decide) (by decide)
  rw [r9]
  obtain ⟨n1, n2⟩ := f6 i hi
  have z0 := n1.1
  refine ⟨num_co n1 n1.1 n1.2.1 (fun t t1 t2 => ?_), by omega⟩
  exact h.2 597 (wga s 599 (9 * p + i) + t).toNat (by omega) (by omega) (by omega) (by decide) (by decide) (by omega) (by decide) (by decide)
theorem pw_rtl {fs rs : List Nat} {lo pl : Int} {c : Nat → List Int} {N : Nat} {s s' : im_S} {R0 k : Nat} {b : Int} {P : List Int} {Lmin Rend : Rat} {lf rf : Nat → Rat} (a : pw fs rs lo pl s s') (hk : R0 + k ≤ 80) (hfs : ∀ f, f ∈ fs → f = 32 ∨ f = 33) (hrs : ∀ c, c ∈ rs → c = 601 ∨ c = 610 ∨ c = 613) (h : rtl c N s R0 b P Lmin Rend k lf rf) : rtl c N s' R0 b P Lmin Rend k lf rf := by
  obtain ⟨h1, h2, h3, h4, h5⟩ := h
  have ff : ∀ f : Nat, f = 41 ∨ f = 52 → wgf s' f = wgf s f := fun f hf => pw_f a (fun z => by
    rcases z with e | e | e | e
    · omega
    · omega
    · omega
    · have := hfs f e
      omega)
  have rr : ∀ (i : Nat) (j : Int), i = 607 ∨ i = 608 ∨ i = 609 ∨ i = 611 ∨ i = 612 → wga s' i j = wga s i j := fun i j e => pw_r a (by omega) (by omega) (by omega) (fun z => by
    have := hrs i z
    omega)
  have n5 : 597 ∉ rs := fun z => by
    have := hrs 597 z
    omega
  refine ⟨by rw [ff 41 (by decide)]; exact h1, by rw [ff 52 (by decide)]; exact h2, fun r hr => ?_, h4, h5⟩
  obtain ⟨⟨q1, q2, h, e, q3, q4, q5⟩, q6⟩ := h3 r hr
  refine ⟨⟨by rw [rr 607 _ (by decide)]; exact q1, by rw [rr 611 _ (by decide)]; exact q2, h, e, by rw [rr 612 _ (by decide)]; exact q3, ?_, ?_⟩, q6⟩
  · have z0 := q4.1
    exact num_co q4 q4.1 q4.2.1 (fun t t1 t2 => pw_m a n5 (by omega) (Or.inr (by omega)))
  · rw [rr 609 _ (by decide), rr 608 _ (by decide)]
    exact q5
