/-! join: moving the bases -/
def cn (s : im_S) (mk : Int) : Nat → Nat
  | 0 => 0
  | n + 1 => cn s mk n + (if mk ≤ wga s 602 n then 1 else 0)
theorem cn_co {s s' : im_S} {mk : Int} : ∀ {n : Nat}, (∀ i : Nat, i < n → wga s' 602 i = wga s 602 i) → cn s' mk n = cn s mk n
  | 0, _ => rfl
  | n + 1, h => by
    show cn s' mk n + _ = cn s mk n + _
    rw [cn_co (n := n) (fun i hi => h i (by omega)), h n (by omega)]
theorem cn_set {s : im_S} {mk x : Int} {i : Nat} : ∀ {n : Nat}, cn (wpa s 602 i x) mk n ≤ cn s mk n + 1
  | 0 => by show 0 ≤ _; omega
  | n + 1 => by
    by_cases e : n = i
    · subst e
      have a : cn (wpa s 602 n x) mk n = cn s mk n := cn_co (fun j hj => wg_ne (by omega) (by omega) (by omega))
      show cn (wpa s 602 n x) mk n + (if mk ≤ wga (wpa s 602 n x) 602 n then 1 else 0) ≤ cn s mk n + (if mk ≤ wga s 602 n then 1 else 0) + 1
      rw [a]
      split <;> split <;> omega
    · have a := cn_set (s := s) (mk := mk) (x := x) (i := i) (n := n)
      show cn (wpa s 602 i x) mk n + (if mk ≤ wga (wpa s 602 i x) 602 n then 1 else 0) ≤ cn s mk n + (if mk ≤ wga s 602 n then 1 else 0) + 1
      rw [wg_ne (by omega) (by omega) (by omega)]
      omega
theorem cn_z {s : im_S} {mk : Int} : ∀ {n : Nat}, (∀ i : Nat, i < n → wga s 602 i < mk) → cn s mk n = 0
  | 0, _ => rfl
  | n + 1, h => by
    show cn s mk n + (if mk ≤ wga s 602 n then 1 else 0) = 0
    rw [cn_z (n := n) (fun i hi => h i (by omega)), if_neg (by have := h n (by omega); omega)]
theorem cn_m {s : im_S} {mk : Int} {n : Nat} : ∀ {j : Nat}, cn s mk n ≤ cn s mk (n + j)
  | 0 => Nat.le_refl _
  | j + 1 => by
    have := cn_m (s := s) (mk := mk) (n := n) (j := j)
    show cn s mk n ≤ cn s mk (n + j) + _
    omega
def psb (s : im_S) (mk : Int) (b : Nat → List Int) : Nat → Int
  | 0 => 0
  | n + 1 => psb s mk b n + (if mk ≤ wga s 602 n then ofs (b n) (b n).length else 0)
theorem psb_co {s s' : im_S} {mk : Int} {b : Nat → List Int} : ∀ {n : Nat}, (∀ i : Nat, i < n → wga s' 602 i = wga s 602 i) → psb s' mk b n = psb s mk b n
  | 0, _ => rfl
  | n + 1, h => by
    show psb s' mk b n + _ = psb s mk b n + _
    rw [psb_co (n := n) (fun i hi => h i (by omega)), h n (by omega)]
theorem psb_b {s : im_S} {mk : Int} {b : Nat → List Int} : ∀ {n : Nat}, (∀ i : Nat, i < n → bs (b i)) → 0 ≤ psb s mk b n ∧ psb s mk b n ≤ 37 * cn s mk n
  | 0, _ => ⟨Int.le_refl 0, Int.le_refl 0⟩
  | n + 1, h => by
    have a := psb_b (s := s) (mk := mk) (b := b) (n := n) (fun i hi => h i (by omega))
    have w := h n (by omega)
    have o := ofs_le (pab_lb (fct_pab w.1)) (b n).length
    have d := ofs_pos (b n) (b n).length
    have l := w.1.1.2.1
    show 0 ≤ psb s mk b n + (if mk ≤ wga s 602 n then ofs (b n) (b n).length else 0) ∧ psb s mk b n + (if mk ≤ wga s 602 n then ofs (b n) (b n).length else 0) ≤ 37 * ((cn s mk n + (if mk ≤ wga s 602 n then 1 else 0) : Nat) : Int)
    split <;> omega
theorem psb_m {s : im_S} {mk : Int} {b : Nat → List Int} {i : Nat} : ∀ {n : Nat}, i < n → mk ≤ wga s 602 i → (∀ j : Nat, j < n → bs (b j)) → psb s mk b i + ofs (b i) (b i).length ≤ psb s mk b n
  | 0, h, _, _ => absurd h (Nat.not_lt_zero i)
  | n + 1, h, hs, hb => by
    have d := ofs_pos (b n) (b n).length
    by_cases e : i = n
    · subst e
      show _ ≤ psb s mk b i + (if mk ≤ wga s 602 i then ofs (b i) (b i).length else 0)
      rw [if_pos hs]; exact Int.le_refl _
    · have a := psb_m (s := s) (mk := mk) (b := b) (n := n) (by omega) hs (fun j hj => hb j (by omega))
      show _ ≤ psb s mk b n + (if mk ≤ wga s 602 n then ofs (b n) (b n).length else 0)
      split <;> omega
theorem join_274 {s1 : im_S} {N : Nat} {p : Nat → Int} {Q : im_S → Prop} (h34 : wgf s1 34 = N) (hN : N ≤ 200) (hp : ∀ i : Nat, i < N → (0 ≤ p i ∧ p i < 1200) ∧ (wga s1 602 i = p i ∨ wga s1 602 i = p i + 1000000)) (hQ : ∀ s', s'.1 = s1.1 → (∀ (c i : Nat), c ≠ 602 → s'.2 c i = s1.2 c i) → (∀ i : Nat, i < N → wga s' 602 i = p i) → Q s') : wloop (fun (K : Int × im_S → Prop) (a : Int × im_S) => W_join_274 K a.1 a.2 Q) (0, s1) := by
  refine ⟨fun a => ∃ k : Nat, a.1 = k ∧ k ≤ N ∧ a.2.1 = s1.1 ∧ (∀ (c i : Nat), c ≠ 602 → a.2.2 c i = s1.2 c i) ∧ (∀ i : Nat, i < k → wga a.2 602 i = p i) ∧ (∀ i : Nat, k ≤ i → wga a.2 602 i = wga s1 602 i), fun a => ((N : Int) - a.1).toNat, ⟨0, rfl, by omega, rfl, fun _ _ _ => rfl, fun i hi => by omega, fun _ _ => rfl⟩, ?_⟩
  rintro ⟨k0, s2⟩ ⟨k, i1, i2, i3, i4, i5, i6⟩
  dsimp only at i1 i2 i3 i4 i5 i6 ⊢
  subst i1
  have e34 : wgf s2 34 = N := by
    show s2.1 582 34 = _
    rw [i3]; exact h34
  unfold W_join_274
  refine ⟨fun c => ?_, fun c => ?_⟩
  · have ek : k = N := by omega
    subst ek
    exact hQ s2 i3 i4 i5
  · have hk : k < N := by omega
    have z := hp k hk
    have y := i6 k (Nat.le_refl _)
    refine ⟨⟨by omega, by omega⟩, fun _ => ⟨by omega, by omega⟩, fun v hv => ⟨⟨by omega, by omega⟩, fun s3 e3 => ⟨⟨by omega, by omega⟩, ⟨k + 1, by dsimp only; omega, by omega, by rw [e3]; exact i3, fun c i hc => ?_, fun i hi => ?_, fun i hi => ?_⟩, by dsimp only; omega⟩⟩⟩
    · rw [e3]
      have : (wpa s2 602 (k : Int) v).2 c i = s2.2 c i := im_up_ne (fun q => hc q.1)
      dsimp only
      rw [this]; exact i4 c i hc
    · dsimp only
      rw [e3]
      by_cases e : i = k
      · subst e
        rw [wg_same, hv]
        split <;> omega
      · rw [wg_ne (by omega) (by omega) (by omega)]; exact i5 i (by omega)
    · dsimp only
      rw [e3, wg_ne (by omega) (by omega) (by omega)]; exact i6 i (by omega)
abbrev pF2 : List Nat := [32, 33, 34]
abbrev pR2 : List Nat := [601, 602]
theorem join_220 {s s1 : im_S} {N : Nat} {b : Nat → List Int} {Q : im_S → Prop} (hs : pw pF2 pR2 (wgf s 24) (wgf s 28) s s1) (h28 : wgf s1 28 = wgf s 28) (h24 : wgf s1 24 = wgf s 24) (h33 : wgf s1 33 = 0) (h34 : wgf s1 34 = N) (hN : N ≤ 200) (h0 : 0 ≤ wgf s 24 ∧ wgf s 24 ≤ 100000) (h0' : 0 ≤ wgf s 28 ∧ wgf s 28 ≤ 300) (hcn : cn s1 (wgf s 28) N ≤ 100) (hb : ∀ i : Nat, i < N → bs (b i)) (hpt : ∀ i : Nat, i < N → (wga s1 602 i < wgf s 28 ∧ pol s (wga s1 602 i) (b i)) ∨ (wgf s 28 ≤ wga s1 602 i ∧ mvp s1 (psb s1 (wgf s 28) b i) (b i))) (hQ : ∀ s', pw pF2 pR2 (wgf s 24) (wgf s 28) s s' → wgf s' 34 = N → wgf s' 28 = wgf s 28 + cn s1 (wgf s 28) N → wgf s 24 ≤ wgf s' 24 → wgf s' 24 ≤ wgf s 24 + 36 * cn s1 (wgf s 28) N → (∀ i : Nat, i < N → pol s' (wga s' 602 i) (b i)) → Q s') : wloop (fun (K : Int × im_S → Prop) (a : Int × im_S) => W_join_220 K (wgf s 28) a.1 a.2 Q) (0, s1) := by
  have f33 : (33 : Nat) ∈ pF2 := by decide
  refine ⟨fun a => ∃ (k : Nat) (p : Nat → Int), a.1 = k ∧ k ≤ N ∧ pw pF2 pR2 (wgf s 24) (wgf s 28) s a.2 ∧ wgf a.2 33 = psb s1 (wgf s 28) b k ∧ wgf a.2 28 = wgf s 28 + cn s1 (wgf s 28) k ∧ wgf s 24 ≤ wgf a.2 24 ∧ wgf a.2 24 ≤ wgf s 24 + 36 * cn s1 (wgf s 28) k ∧ wgf a.2 34 = N ∧ (∀ i : Int, wga a.2 601 i = wga s1 601 i) ∧ (∀ i : Nat, i < k → (0 ≤ p i ∧ p i < 1200) ∧ (wga a.2 602 i = p i ∨ wga a.2 602 i = p i + 1000000) ∧ pol a.2 (p i) (b i)) ∧ (∀ i : Nat, k ≤ i → wga a.2 602 i = wga s1 602 i), fun a => ((N : Int) - a.1).toNat, ⟨0, fun _ => 0, rfl, by omega, hs, h33, by dsimp only; show _ = wgf s 28 + 0; omega, by dsimp only; omega, by dsimp only; omega, h34, fun _ => rfl, fun i hi => by omega, fun _ _ => rfl⟩, ?_⟩
  rintro ⟨k0, s2⟩ ⟨k, p, i1, i2, i3, i4, i5, i6, i7, i8, i9, i10, i11⟩
  dsimp only at i1 i2 i3 i4 i5 i6 i7 i8 i9 i10 i11 ⊢
  subst i1
  unfold W_join_220
  refine ⟨fun c => ?_, fun c => ?_⟩
  · have ek : k = N := by omega
    subst ek
    refine join_274 i8 hN (fun i hi => ⟨(i10 i hi).1, (i10 i hi).2.1⟩) (fun s3 e1 e2 e3 => ?_)
    have ef : ∀ f : Nat, wgf s3 f = wgf s2 f := fun f => by show s3.1 582 f = _; rw [e1]; rfl
    have er : ∀ (r : Nat) (i : Int), r ≠ 602 → wga s3 r i = wga s2 r i := fun r i hr => e2 r i.toNat hr
    refine hQ s3 ⟨fun c f h => by rw [e1]; exact i3.1 c f h, fun c i q1 q2 q3 q4 => by
      have hc : c ≠ 602 := fun e => q4 (by rw [e]; decide)
      rw [e2 c i hc]; exact i3.2 c i q1 q2 q3 q4⟩ (by rw [ef]; exact i8) (by rw [ef]; exact i5) (by rw [ef]; exact i6) (by rw [ef]; exact i7) (fun i hi => ?_)
    rw [e3 i hi]
    obtain ⟨p1, p2, p3, p4, p5, p6⟩ := (i10 i hi).2.2
    refine ⟨p1, by rw [ef]; exact p2, by rw [ef]; exact p3, p4, by rw [er 598 _ (by decide)]; exact p5, fun j hj => ?_⟩
    rw [er 599 _ (by decide)]
    have z := p6 j hj
    exact ⟨num_co z.1 z.1.1 z.1.2.1 (fun t _ _ => er 597 _ (by decide)), by rw [ef]; exact z.2⟩
  · have hk : k < N := by omega
    have y := i11 k (Nat.le_refl _)
    have cm := cn_m (s := s1) (mk := wgf s 28) (n := k + 1) (j := N - (k + 1))
    rw [show k + 1 + (N - (k + 1)) = N by omega] at cm
    have cs : cn s1 (wgf s 28) (k + 1) = cn s1 (wgf s 28) k + (if wgf s 28 ≤ wga s1 602 k then 1 else 0) := rfl
    have pss : psb s1 (wgf s 28) b (k + 1) = psb s1 (wgf s 28) b k + (if wgf s 28 ≤ wga s1 602 k then ofs (b k) (b k).length else 0) := rfl
    refine ⟨⟨by omega, by omega⟩, fun c1 => ⟨⟨by omega, by omega⟩, ?_⟩, fun c1 => ?_⟩
    · unfold W_join_264
      refine ⟨⟨by omega, by omega⟩, fun s3 e3 => ⟨⟨by omega, by omega⟩, ?_⟩⟩
      rcases hpt k hk with ⟨u1, u2⟩ | ⟨u1, u2⟩
      · rw [if_neg (by omega)] at cs pss
        have f1 := u2.1
        refine ⟨⟨k + 1, fun i => if i = k then wga s1 602 k else p i, by dsimp only; omega, by omega, by rw [e3]; exact pw_pa i3 (by decide), by dsimp only; rw [e3, wf_pa, pss, Int.add_zero]; exact i4, by dsimp only; rw [e3, wf_pa, cs]; exact i5, by dsimp only; rw [e3, wf_pa]; exact i6, by dsimp only; rw [e3, wf_pa, cs]; exact i7, by dsimp only; rw [e3, wf_pa]; exact i8, fun i => by dsimp only; rw [e3, wg_row (by decide)]; exact i9 i, fun i hi => ?_, fun i hi => ?_⟩, by dsimp only; omega⟩
        · dsimp only
          by_cases e : i = k
          · subst e
            rw [if_pos rfl, e3, wg_same, y]
            refine ⟨⟨f1, by omega⟩, Or.inl rfl, pol_pa (by decide) (by decide) (by decide) ?_⟩
            exact pw_pol i3 ⟨by decide, by decide, by decide⟩ (Int.le_refl _) i6 (Int.le_refl _) (by omega) (by omega) u2
          · rw [if_neg e, e3, wg_ne (by omega) (by omega) (by omega)]
            have z := i10 i (by omega)
            exact ⟨z.1, z.2.1, pol_pa (by decide) (by decide) (by decide) z.2.2⟩
        · dsimp only
          rw [e3, wg_ne (by omega) (by omega) (by omega)]; exact i11 i (by omega)
      · omega
    · rcases hpt k hk with ⟨u1, u2⟩ | ⟨u1, u2⟩
      · omega
      · rw [if_pos u1] at cs pss
        have w := hb k hk
        have l9 := w.1.1.2.1
        have ol := ofs_le (pab_lb (fct_pab w.1)) (b k).length
        have op := ofs_pos (b k) (b k).length
        have pb := psb_b (s := s1) (mk := wgf s 28) (b := b) (n := k) (fun i hi => hb i (by omega))
        have mv : mvp s2 (wgf s2 33) (b k) := by
          rw [i4]
          refine ⟨by rw [i9]; exact u2.1, fun j hj => ?_⟩
          obtain ⟨s0, x, a, e⟩ := u2.2 j hj
          exact ⟨s0, x, a, fun t t1 t2 => by rw [i9]; exact e t t1 t2⟩
        refine comeBack_ok mv l9 (by omega) (by omega) (by omega) (by omega) (by omega) (by omega) (fun s3 a1 a2 a3 a4 a5 => ⟨⟨by omega, by omega⟩, ?_⟩)
        unfold W_join_264
        refine ⟨⟨by omega, by omega⟩, fun s4 e4 => ⟨⟨by omega, by omega⟩, ⟨k + 1, fun i => if i = k then wgf s2 28 else p i, by dsimp only; omega, by omega, ?_, by dsimp only; rw [e4, wf_pa, a2, i4, pss], by dsimp only; rw [e4, wf_pa]; omega, by dsimp only; rw [e4, wf_pa]; omega, by dsimp only; rw [e4, wf_pa]; omega, by dsimp only; rw [e4, wf_pa, pw_f a1 (by decide)]; exact i8, fun i => by dsimp only; rw [e4, wg_row (by decide), pw_r a1 (by decide) (by decide) (by decide) (by decide)]; exact i9 i, fun i hi => ?_, fun i hi => ?_⟩, by dsimp only; omega⟩⟩
        · rw [e4]
          refine pw_pa (pw_tr i3 (pw_mono a1 (fun f hf => ?_) (fun r hr => nomatch hr) (by omega) (by omega))) (by decide)
          rw [List.mem_singleton.1 hf]; exact f33
        · dsimp only
          by_cases e : i = k
          · subst e
            rw [if_pos rfl, e4, wg_same]
            exact ⟨⟨by omega, by omega⟩, Or.inr rfl, pol_pa (by decide) (by decide) (by decide) a5⟩
          · rw [if_neg e, e4, wg_ne (by omega) (by omega) (by omega), pw_r a1 (by decide) (by decide) (by decide) (by decide)]
            have z := i10 i (by omega)
            exact ⟨z.1, z.2.1, pol_pa (by decide) (by decide) (by decide) (pw_pol a1 ⟨by decide, by decide, by decide⟩ (Int.le_refl _) (by omega) (Int.le_refl _) (by omega) (by omega) z.2.2)⟩
        · dsimp only
          rw [e4, wg_ne (by omega) (by omega) (by omega), pw_r a1 (by decide) (by decide) (by decide) (by decide)]; exact i11 i (by omega)
theorem join_166 {s s1 : im_S} {N : Nat} {b : Nat → List Int} {Q : im_S → Prop} (hs : pw pF2 pR2 (wgf s 24) (wgf s 28) s s1) (h34 : wgf s1 34 = N) (hN : N ≤ 200) (h0 : 0 ≤ wgf s 24 ∧ wgf s 24 ≤ 100000) (h0' : 0 ≤ wgf s 28 ∧ wgf s 28 ≤ 300) (hcn : cn s1 (wgf s 28) N ≤ 100) (hb : ∀ i : Nat, i < N → bs (b i)) (hpt : ∀ i : Nat, i < N → pol s1 (wga s1 602 i) (b i) ∧ (wga s1 602 i < wgf s 28 → pol s (wga s1 602 i) (b i))) (hQ : ∀ s', pw pF2 pR2 (wgf s 24) (wgf s 28) s s' → wgf s' 34 = N → wgf s' 28 = wgf s 28 + cn s1 (wgf s 28) N → wgf s 24 ≤ wgf s' 24 → wgf s' 24 ≤ wgf s 24 + 36 * cn s1 (wgf s 28) N → (∀ i : Nat, i < N → pol s' (wga s' 602 i) (b i)) → Q s') : W_join_166 (wgf s 28) (wgf s 24) s1 Q := by
  unfold W_join_166
  intro s2 e2
  have r2 : ∀ (r : Nat) (i : Int), wga s2 r i = wga s1 r i := fun r i => by rw [e2]; rfl
  refine ⟨fun a => ∃ k : Nat, a.1 = k ∧ k ≤ N ∧ sy 0 s2 a.2 ∧ wgf a.2 32 = psb s1 (wgf s 28) b k ∧ ∀ i : Nat, i < k → wgf s 28 ≤ wga s1 602 i → mvp a.2 (psb s1 (wgf s 28) b i) (b i), fun a => ((N : Int) - a.1).toNat, ⟨0, rfl, by omega, sy_rfl, by rw [e2]; exact wf_same, fun i hi => by omega⟩, ?_⟩
  rintro ⟨k0, s3⟩ ⟨k, i1, i2, i3, i4, i5⟩
  dsimp only at i1 i2 i3 i4 i5 ⊢
  subst i1
  unfold W_join_174
  have e34 : wgf s3 34 = N := by rw [sy_f i3 (by decide), e2, wf_ne (by decide)]; exact h34
  have r3 : ∀ (r : Nat) (i : Int), r ≠ 601 → wga s3 r i = wga s1 r i := fun r i hr => by rw [sy_r i3 hr]; exact r2 r i
  refine ⟨fun c => ?_, fun c => ?_⟩
  · have ek : k = N := by omega
    subst ek
    refine giveBack_ok (fun s4 b1 b2 b3 b4 b5 => ?_)
    have w3 : pw pF2 pR2 (wgf s 24) (wgf s 28) s s3 := pw_tr (pw_tr hs (by rw [e2]; exact pw_pf pw_rfl (Or.inr (Or.inr (Or.inr (by decide)))))) (sy_pw i3 (by decide) (by decide))
    have w4 : pw pF2 pR2 (wgf s 24) (wgf s 28) s s4 := by
      refine ⟨fun c f h => ?_, fun c i q1 q2 q3 q4 => ?_⟩
      · rw [b1 c f (fun z => h ⟨z.1, by rcases z.2 with e | e | e; exact Or.inl e; exact Or.inr (Or.inr (Or.inl e)); exact Or.inr (Or.inr (Or.inr (by rw [e]; decide)))⟩)]
        exact w3.1 c f h
      · rw [b2]; exact w3.2 c i q1 q2 q3 q4
    have r4 : ∀ (r : Nat) (i : Int), wga s4 r i = wga s3 r i := fun r i => by show s4.2 r i.toNat = _; rw [b2]; rfl
    have q4 : ∀ i : Int, wga s4 602 i = wga s1 602 i := fun i => by rw [r4]; exact r3 602 i (by decide)
    have cn4 : ∀ n : Nat, cn s4 (wgf s 28) n = cn s1 (wgf s 28) n := fun n => cn_co (fun i _ => q4 i)
    have ps4 : ∀ n : Nat, psb s4 (wgf s 28) b n = psb s1 (wgf s 28) b n := fun n => psb_co (fun i _ => q4 i)
    refine join_220 (b := b) w4 b3 b4 b5 ?_ hN h0 h0' (by rw [cn4]; exact hcn) hb (fun i hi => ?_) (fun s' d1 d2 d3 d4 d5 d6 => hQ s' d1 d2 (by rw [← cn4]; exact d3) d4 (by rw [← cn4]; exact d5) d6)
    · have : wgf s4 34 = wgf s3 34 := b1 582 34 (by decide)
      rw [this]; exact e34
    · rw [q4]
      by_cases ci : wga s1 602 i < wgf s 28
      · exact Or.inl ⟨ci, (hpt i hi).2 ci⟩
      · refine Or.inr ⟨by omega, ?_⟩
        rw [ps4]
        have z := i5 i hi (by omega)
        refine ⟨by rw [r4]; exact z.1, fun j hj => ?_⟩
        obtain ⟨s0, x, a, e⟩ := z.2 j hj
        exact ⟨s0, x, a, fun t t1 t2 => by rw [r4]; exact e t t1 t2⟩
  · have hk : k < N := by omega
    have q3 := r3 602 (k : Int) (by decide)
    have pss : psb s1 (wgf s 28) b (k + 1) = psb s1 (wgf s 28) b k + (if wgf s 28 ≤ wga s1 602 k then ofs (b k) (b k).length else 0) := rfl
    have cm := cn_m (s := s1) (mk := wgf s 28) (n := k + 1) (j := N - (k + 1))
    rw [show k + 1 + (N - (k + 1)) = N by omega] at cm
    have pb1 := psb_b (s := s1) (mk := wgf s 28) (b := b) (n := k + 1) (fun i hi => hb i (by omega))
    have pb := psb_b (s := s1) (mk := wgf s 28) (b := b) (n := k) (fun i hi => hb i (by omega))
    refine ⟨⟨by omega, by omega⟩, fun c1 => ?_, fun c1 => ⟨⟨by omega, by omega⟩, ?_⟩⟩
    · unfold W_join_205
      rw [if_neg (by omega)] at pss
      exact ⟨⟨by omega, by omega⟩, ⟨k + 1, by dsimp only; omega, by omega, i3, by dsimp only; omega, fun i hi hs2 => by
        by_cases e : i = k
        · subst e; omega
        · exact i5 i (by omega) hs2⟩, by dsimp only; omega⟩
    · rw [if_pos (by omega)] at pss
      have pz : pol s3 (wga s3 602 (k : Int)) (b k) := by
        rw [q3]
        have z := (hpt k hk).1
        refine sy_pol i3 ?_
        rw [e2]
        exact pol_pf (by decide) (by decide) z
      refine stay_ok pz (by omega) (by omega) (fun s4 a1 a2 a3 => ?_)
      unfold W_join_205
      refine ⟨⟨by omega, by omega⟩, ⟨k + 1, by dsimp only; omega, by omega, sy_tr i3 (sy_mono a1 (by omega)), by dsimp only; omega, fun i hi hs2 => ?_⟩, by dsimp only; omega⟩
      dsimp only
      by_cases e : i = k
      · subst e
        rw [← i4]; exact a3
      · have pm := psb_m (s := s1) (mk := wgf s 28) (b := b) (i := i) (n := k) (by omega) hs2 (fun j hj => hb j (by omega))
        have pb2 := psb_b (s := s1) (mk := wgf s 28) (b := b) (n := i) (fun j hj => hb j (by omega))
        exact sy_mvp a1 pb2.1 (by omega) (i5 i (by omega) hs2)
