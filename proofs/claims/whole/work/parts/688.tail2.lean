/-! findRoots behind restRoots: the part that stays comes back -/
theorem gb_pw {fs rs : List Nat} {lo pl : Int} {s s' : im_S} (h1 : ∀ c f : Nat, ¬ (c = 582 ∧ (f = 24 ∨ f = 28 ∨ f = 33)) → s'.1 c f = s.1 c f) (h2 : s'.2 = s.2) (h : 33 ∈ fs) : pw fs rs lo pl s s' := ⟨fun c f q => h1 c f (fun z => q ⟨z.1, by rcases z.2 with e | e | e; exact Or.inl e; exact Or.inr (Or.inr (Or.inl e)); exact Or.inr (Or.inr (Or.inr (by rw [e]; exact h)))⟩), fun c i _ _ _ _ => by rw [h2]⟩
theorem lst_pw {fs rs : List Nat} {lo pl R0 : Int} {s s' : im_S} (h1 : s'.1 = s.1) (h2 : ∀ c i : Nat, ¬ (c = 610 ∧ R0 ≤ (i : Int)) → s'.2 c i = s.2 c i) (h : 610 ∈ rs) : pw fs rs lo pl s s' := ⟨fun c f _ => by rw [h1], fun c i _ _ _ q => h2 c i (fun z => q (by rw [z.1]; exact h))⟩
theorem rti_mv {s s' : im_S} {R f g : Int} {F : List Int} {lo hi : Rat} (h : rti s R f F lo hi) (h0 : 0 ≤ R) (hR : R ≤ 79) (h1 : wga s' 610 R = g) (h2 : wga s' 611 R = wga s 611 R) (h3 : wga s' 612 R = wga s 612 R) (h4 : wga s' 613 R = wga s 613 R) (h5 : ∀ i : Int, 684000 ≤ i → wga s' 597 i = wga s 597 i) : rti s' R g F lo hi := by
  obtain ⟨z1, z2, h', e', z3, z4, z5, z6, z7, z8, z9, z10, z11, z12, z13⟩ := h
  refine ⟨h1, by rw [h2]; exact z2, h', e', by rw [h3]; exact z3, ?_, z5, z6, z7, z8, z9, z10, z11, z12, by rw [h4]; exact z13⟩
  exact num_co z4 z4.1 z4.2.1 (fun t t1 t2 => h5 _ (by omega))
theorem fin443 {s s6 : im_S} {l2 l3 f g : Int} {R0 k : Nat} {F : List Int} {lf rf : Nat → Rat} {Q : im_S → Prop} (w6 : pw [32, 33] [601] l3 l2 s s6) (h41 : wgf s 41 = ((R0 + k : Nat) : Int)) (hk : R0 + k ≤ 80) (hrt : ∀ r : Nat, r < k → wga s 609 ((R0 + r : Nat) : Int) = 0 → rti s ((R0 + r : Nat) : Int) f F (lf r) (rf r)) (hg : (∀ r : Nat, r < k → wga s 609 ((R0 + r : Nat) : Int) ≠ 0) ∨ pol s6 g F) (t28 : l2 ≤ wgf s6 28 ∧ wgf s6 28 ≤ l2 + 1) (t24 : l3 ≤ wgf s6 24 ∧ wgf s6 24 ≤ l3 + 40) (hQ : ∀ (s' : im_S) (g : Int), pw [32, 33] [601, 610] l3 l2 s s' → (∀ i : Int, 0 ≤ i → i < (R0 : Int) → wga s' 610 i = wga s 610 i) → l2 ≤ wgf s' 28 ∧ wgf s' 28 ≤ l2 + 1 → l3 ≤ wgf s' 24 ∧ wgf s' 24 ≤ l3 + 40 → ((∀ r : Nat, r < k → wga s 609 ((R0 + r : Nat) : Int) ≠ 0) ∨ pol s' g F) → (∀ r : Nat, r < k → wga s 609 ((R0 + r : Nat) : Int) = 0 → rti s' ((R0 + r : Nat) : Int) g F (lf r) (rf r)) → Q s') : W_findRoots_437 (R0 : Int) g s6 Q := by
  unfold W_findRoots_437
  refine findRoots_443 (by rw [pw_f w6 (by decide)]; exact h41) hk (fun s' a1 a2 a3 => ?_)
  have fw : ∀ f, wgf s' f = wgf s6 f := fun f => by
    show s'.1 582 f = s6.1 582 f
    rw [a1]
  have w7 : pw [32, 33] [601, 610] l3 l2 s s' := pw_tr (pw_mono w6 (fun _ h => h) (fun r h => List.mem_cons.2 (Or.inl (List.mem_singleton.1 h))) (Int.le_refl _) (Int.le_refl _)) (lst_pw a1 a2 (by decide))
  refine hQ s' g w7 (fun i i0 i1 => ?_) (by rw [fw]; exact t28) (by rw [fw]; exact t24) ?_ (fun r hr hz => ?_)
  · rw [← pw_r w6 (c := 610) (i := i) (by decide) (by decide) (by decide) (by decide)]
    exact a2 610 i.toNat (fun z => by have := z.2; omega)
  · rcases hg with q | q
    · exact Or.inl q
    · right
      have q3 := q.2.2.1
      have w8 : pw [] [610] (wgf s6 24) (wgf s6 28) s6 s' := lst_pw a1 a2 (by decide)
      exact pw_pol w8 ⟨by decide, by decide, by decide⟩ (Int.le_refl _) (by rw [fw]; exact Int.le_refl _) (Int.le_refl _) (by rw [fw]; exact Int.le_refl _) (by rw [fw]; exact q3) q
  · exact rti_mv (hrt r hr hz) (by omega) (by omega) (a3 r hr) (pw_r w7 (by decide) (by decide) (by decide) (by decide)) (pw_r w7 (by decide) (by decide) (by decide) (by decide)) (pw_r w7 (by decide) (by decide) (by decide) (by decide)) (fun i hi => pw_m w7 (by decide) (by omega) (Or.inr hi))
theorem findRoots_358 {s : im_S} {l2 l3 f : Int} {R0 k : Nat} {F : List Int} {lf rf : Nat → Rat} {Q : im_S → Prop} (hl2 : 0 ≤ l2 ∧ l2 ≤ wgf s 28) (hl22 : l2 < 1200) (hl3 : 0 ≤ l3 ∧ l3 + 50 ≤ 684000) (hf : pol s f F) (fF : fct F) (hlo : f < l2 → ∀ i : Nat, i < F.length → wga s 599 (9 * f + i) + lim (pgt F i) < l3) (h41 : wgf s 41 = ((R0 + k : Nat) : Int)) (hk : R0 + k ≤ 80) (hrt : ∀ r : Nat, r < k → wga s 609 ((R0 + r : Nat) : Int) = 0 → rti s ((R0 + r : Nat) : Int) f F (lf r) (rf r)) (hQ : ∀ (s' : im_S) (g : Int), pw [32, 33] [601, 610] l3 l2 s s' → (∀ i : Int, 0 ≤ i → i < (R0 : Int) → wga s' 610 i = wga s 610 i) → l2 ≤ wgf s' 28 ∧ wgf s' 28 ≤ l2 + 1 → l3 ≤ wgf s' 24 ∧ wgf s' 24 ≤ l3 + 40 → ((∀ r : Nat, r < k → wga s 609 ((R0 + r : Nat) : Int) ≠ 0) ∨ pol s' g F) → (∀ r : Nat, r < k → wga s 609 ((R0 + r : Nat) : Int) = 0 → rti s' ((R0 + r : Nat) : Int) g F (lf r) (rf r)) → Q s') : wloop (fun (K : Int × Int × im_S → Prop) (a : Int × Int × im_S) => W_findRoots_358 K l2 l3 (R0 : Int) a.1 a.2.1 a.2.2 Q) (-2, (R0 : Int), s) := by
  have of1 := ofs_le (pab_lb (fct_pab fF)) F.length
  have of0 := ofs_pos F F.length
  have l9 := hf.2.2.2.1
  have m33 : (33 : Nat) ∈ [32, 33] := by decide
  refine ⟨fun a => ∃ j : Nat, a.2.1 = ((R0 + j : Nat) : Int) ∧ j ≤ k ∧ a.2.2 = s ∧ ((a.1 = -2 ∧ ∀ r : Nat, r < j → wga s 609 ((R0 + r : Nat) : Int) ≠ 0) ∨ a.1 = f), fun a => (((R0 + k : Nat) : Int) - a.2.1).toNat, ⟨0, rfl, by omega, rfl, Or.inl ⟨rfl, fun r hr => by omega⟩⟩, ?_⟩
  rintro ⟨v, r0, s2⟩ ⟨j, i1, i2, i3, i4⟩
  dsimp only at i1 i2 i3 i4 ⊢
  subst i1
  subst i3
  unfold W_findRoots_358
  refine ⟨fun q s3 e3 => ?_, fun q => ⟨⟨by omega, by omega⟩, fun w ew => ⟨⟨by omega, by omega⟩, ⟨j + 1, by dsimp only; omega, by omega, rfl, ?_⟩, by dsimp only; omega⟩⟩⟩
  · have ej : j = k := by omega
    subst ej
    have w3 : pw [32, 33] [601] l3 l2 s2 s3 := by rw [e3]; exact pw_pf pw_rfl (Or.inr (Or.inr (Or.inr (by decide))))
    refine ⟨fun c => ?_, fun c => ?_⟩
    · unfold W_findRoots_416
      refine giveBack_ok (fun s6 b1 b2 b3 b4 b5 => ⟨fun _ => ?_, fun c' => absurd c c'⟩)
      have w6 : pw [32, 33] [601] l3 l2 s2 s6 := pw_tr w3 (gb_pw b1 b2 m33)
      refine fin443 w6 h41 hk hrt ?_ (by omega) (by omega) hQ
      rcases i4 with z | z
      · exact Or.inl z.2
      · right
        subst z
        obtain ⟨f1, f2, f3, f4, f5, f6⟩ := hf
        refine ⟨f1, by omega, by omega, f4, by rw [pw_d w6 (by decide) f1 c]; exact f5, fun i hi => ?_⟩
        rw [pw_pt w6 (by decide) (by omega) (by omega)]
        have z := hlo c i hi
        exact ⟨pw_num w6 (by decide) (f6 i hi).1 (Or.inl z), by omega⟩
    · have ev : v = f := by
        rcases i4 with z | z
        · omega
        · exact z
      subst ev
      have g32 : wgf s3 32 = 0 := by rw [e3]; exact wf_same
      have p3 : pol s3 v F := by rw [e3]; exact pol_pf (by decide) (by decide) hf
      refine stay_ok p3 (by omega) (by omega) (fun s4 a1 a2 a3 => ?_)
      rw [g32] at a1 a2 a3
      unfold W_findRoots_416
      refine giveBack_ok (fun s6 b1 b2 b3 b4 b5 => ⟨fun c' => absurd c' c, fun _ => ?_⟩)
      have w6 : pw [32, 33] [601] l3 l2 s2 s6 := pw_tr (pw_tr w3 (sy_pw a1 (by decide) (by decide))) (gb_pw b1 b2 m33)
      have mv : mvp s6 (wgf s6 33) F := by
        rw [b5]
        unfold mvp mvn wga at a3 ⊢
        rw [b2]
        exact a3
      refine comeBack_ok mv l9 (by omega) (by omega) (by omega) (by omega) (by omega) (by omega) (fun s9 d1 d2 d3 d4 d5 => ?_)
      rw [b3, b4] at d1
      rw [b3] at d5 ⊢
      refine fin443 (pw_tr w6 (pw_mono d1 (fun f h => List.mem_cons.2 (Or.inr h)) (fun r h => nomatch h) (Int.le_refl _) (Int.le_refl _))) h41 hk hrt (Or.inr d5) (by omega) (by omega) hQ
  · dsimp only
    by_cases c : wga s2 609 ((R0 + j : Nat) : Int) = 0
    · right
      rw [ew, if_neg (fun h => h c)]
      exact (hrt j (by omega) c).1
    · rw [ew, if_pos c]
      rcases i4 with z | z
      · exact Or.inl ⟨z.1, fun r hr => by
          by_cases er : r = j
          · subst er; exact c
          · exact z.2 r (by omega)⟩
      · exact Or.inr z
