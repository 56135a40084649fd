/-! findTimes -/
def fx (s : im_S) (n : Nat) (c : Nat → List Int) : Prop := wgf s 36 = n ∧ n ≤ 80 ∧ ∀ k : Nat, k < n → fie s k (c k)
theorem pw_fx {fs rs : List Nat} {s s' : im_S} {n : Nat} {c : Nat → List Int} (h : pw fs rs (wgf s 24) (wgf s 28) s s') (h36 : 36 ∉ fs) (hr : ∀ r, r ∈ rs → r ≠ 597 ∧ r ≠ 598 ∧ r ≠ 599 ∧ r ≠ 603 ∧ r ≠ 604 ∧ r ≠ 605) (h1 : wgf s 24 ≤ wgf s' 24) (h2 : wgf s 28 ≤ wgf s' 28) (h3 : wgf s' 28 ≤ 1200) (hf : fx s n c) : fx s' n c := by
  refine ⟨by rw [pw_f h (by rintro (q | q | q | q); exact absurd q (by decide); exact absurd q (by decide); exact absurd q (by decide); exact h36 q)]; exact hf.1, hf.2.1, fun k hk => ?_⟩
  have z := hf.2.2 k hk
  unfold fie
  rw [pw_r h (by decide) (by decide) (by decide) (fun q => (hr _ q).2.2.2.1 rfl), pw_r (c := 604) h (by decide) (by decide) (by decide) (fun q => (hr _ q).2.2.2.2.1 rfl), pw_r (c := 605) h (by decide) (by decide) (by decide) (fun q => (hr _ q).2.2.2.2.2 rfl)]
  exact ⟨pw_pol h ⟨fun q => (hr _ q).1 rfl, fun q => (hr _ q).2.1 rfl, fun q => (hr _ q).2.2.1 rfl⟩ (Int.le_refl _) h1 (Int.le_refl _) h2 h3 z.1, z.2⟩
theorem pw_bi {fs rs : List Nat} {s s' : im_S} {n : Nat} {b : Nat → List Int} (h : pw fs rs (wgf s 24) (wgf s 28) s s') (h34 : 34 ∉ fs) (hr : ∀ r, r ∈ rs → r ≠ 597 ∧ r ≠ 598 ∧ r ≠ 599 ∧ r ≠ 602) (h1 : wgf s 24 ≤ wgf s' 24) (h2 : wgf s 28 ≤ wgf s' 28) (h3 : wgf s' 28 ≤ 1200) (hf : bi s n b) : bi s' n b := by
  refine ⟨by rw [pw_f h (by rintro (q | q | q | q); exact absurd q (by decide); exact absurd q (by decide); exact absurd q (by decide); exact h34 q)]; exact hf.1, fun k hk => ?_, hf.2.2⟩
  have z := hf.2.1 k hk
  unfold be
  rw [pw_r h (by decide) (by decide) (by decide) (fun q => (hr _ q).2.2.2 rfl)]
  exact ⟨pw_pol h ⟨fun q => (hr _ q).1 rfl, fun q => (hr _ q).2.1 rfl, fun q => (hr _ q).2.2.1 rfl⟩ (Int.le_refl _) h1 (Int.le_refl _) h2 h3 z.1, z.2⟩
abbrev pF3 : List Nat := [33]
abbrev pR3 : List Nat := [606]
theorem findTimes_ok {s : im_S} {n nb : Nat} {c b : Nat → List Int} {Q : im_S → Prop} (h0 : 0 ≤ wgf s 24 ∧ wgf s 24 ≤ 9000) (h0' : 0 ≤ wgf s 28 ∧ wgf s 28 ≤ 240) (hfx : fx s n c) (hbi : bi s nb b) (hd : dsm b nb ≤ 80) (hQ : ∀ s', pw pF3 pR3 (wgf s 24) (wgf s 28) s s' → wgf s' 24 = wgf s 24 → wgf s' 28 = wgf s 28 → (∀ i : Nat, i < 2000 → 0 ≤ wga s' 606 i ∧ wga s' 606 i ≤ 8) → Q s') : W_findTimes s Q := by
  unfold W_findTimes
  have nbd : nb ≤ dsm b nb := dsm_n (fun k hk => (hbi.2.1 k hk).2.2.2.1)
  have r6 : ∀ r, r ∈ pR3 → r = 606 := fun r h => List.mem_singleton.1 h
  have hr1 : ∀ r, r ∈ pR3 → r ≠ 597 ∧ r ≠ 598 ∧ r ≠ 599 ∧ r ≠ 603 ∧ r ≠ 604 ∧ r ≠ 605 := fun r h => by rw [r6 r h]; decide
  have hr2 : ∀ r, r ∈ pR3 → r ≠ 597 ∧ r ≠ 598 ∧ r ≠ 599 ∧ r ≠ 602 := fun r h => by rw [r6 r h]; decide
  refine ⟨fun a => ∃ i : Nat, a.1 = i ∧ i ≤ 2000 ∧ pw pF3 pR3 (wgf s 24) (wgf s 28) s a.2 ∧ wgf a.2 24 = wgf s 24 ∧ wgf a.2 28 = wgf s 28 ∧ (∀ j : Nat, j < i → wga a.2 606 j = 0), fun a => (2000 - a.1).toNat, ⟨0, rfl, by omega, pw_rfl, rfl, rfl, fun j hj => by omega⟩, ?_⟩
  rintro ⟨i0, s1⟩ ⟨i, i1, i2, i3, i4, i5, i6⟩
  dsimp only at i1 i2 i3 i4 i5 i6 ⊢
  subst i1
  unfold W_findTimes_2
  refine ⟨fun e => ?_, fun e => ⟨⟨by omega, by omega⟩, fun s2 e2 => ⟨⟨by omega, by omega⟩, ⟨i + 1, by dsimp only; omega, by omega, by rw [e2]; exact pw_pa i3 (by decide), by rw [e2]; exact i4, by rw [e2]; exact i5, fun j hj => ?_⟩, by dsimp only; omega⟩⟩⟩
  · have ei : i = 2000 := by omega
    subst ei
    refine ⟨fun a => ∃ k : Nat, a.1 = k ∧ k ≤ nb ∧ pw pF3 pR3 (wgf s 24) (wgf s 28) s a.2 ∧ wgf a.2 24 = wgf s 24 ∧ wgf a.2 28 = wgf s 28 ∧ (∀ j : Nat, j < 2000 → 0 ≤ wga a.2 606 j ∧ wga a.2 606 j ≤ 8), fun a => ((nb : Int) - a.1).toNat, ⟨0, rfl, by omega, i3, i4, i5, fun j hj => by dsimp only; rw [i6 j hj]; decide⟩, ?_⟩
    rintro ⟨k0, s2⟩ ⟨k, j1, j2, j3, j4, j5, j6⟩
    dsimp only at j1 j2 j3 j4 j5 j6 ⊢
    subst j1
    have b2 := pw_bi j3 (by decide) hr2 (by omega) (by omega) (by omega) hbi
    unfold W_findTimes_26
    refine ⟨fun e => hQ s2 j3 j4 j5 j6, fun e => ?_⟩
    have hk : k < nb := by have := b2.1; omega
    refine ⟨fun a => ∃ l : Nat, a.1 = l ∧ l ≤ n ∧ pw pF3 pR3 (wgf s 24) (wgf s 28) s a.2 ∧ wgf a.2 24 = wgf s 24 ∧ wgf a.2 28 = wgf s 28 ∧ (∀ j : Nat, j < 2000 → 0 ≤ wga a.2 606 j ∧ wga a.2 606 j ≤ 8), fun a => ((n : Int) - a.1).toNat, ⟨0, rfl, by omega, j3, j4, j5, j6⟩, ?_⟩
    rintro ⟨l0, s3⟩ ⟨l, q1, q2, q3, q4, q5, q6⟩
    dsimp only at q1 q2 q3 q4 q5 q6 ⊢
    subst q1
    have b3 := pw_bi q3 (by decide) hr2 (by omega) (by omega) (by omega) hbi
    have x3 := pw_fx q3 (by decide) hr1 (by omega) (by omega) (by omega) hfx
    have n80 := hfx.2.1
    unfold W_findTimes_36
    refine ⟨fun e2 => ⟨⟨by omega, by omega⟩, ⟨k + 1, by dsimp only; omega, by omega, q3, q4, q5, q6⟩, by dsimp only; omega⟩, fun e2 => ⟨⟨by omega, by omega⟩, ⟨by omega, by omega⟩, ?_⟩⟩
    have hl : l < n := by have := x3.1; omega
    obtain ⟨pk, bk⟩ := b3.2.1 k hk
    obtain ⟨pf, of, at1, at2⟩ := x3.2.2 l hl
    have gP := bk.1.1
    have gF := of.1.1
    have ctd := ct_d (b k).length (by have := gP.2.1; omega) (c l).length (by have := gF.2.1; omega)
    have c9 := gF.2.1
    refine common2_gcd pk pf gP.1 gF.1 gP.2.2.1 gF.2.2.1 gP.2.2.2.2 gF.2.2.2.2 (fct_pab bk.1) (fct_pab of.1) (by omega) (by omega) (by omega) (fun h s4 H a1 a2 a3 a4 a5 a6 => ?_)
    have a13 := a1.2.2.1
    have a14 := a1.2.2.2
    have a42 := a4.2.1
    have a43 := a4.2.2.1
    have e602 : wga s4 602 (k : Int) = wga s3 602 (k : Int) := ps_r a1 (by decide) (by decide) (by decide)
    have e604 : wga s4 604 (l : Int) = wga s3 604 (l : Int) := ps_r a1 (by decide) (by decide) (by decide)
    have e605 : wga s4 605 (l : Int) = wga s3 605 (l : Int) := ps_r a1 (by decide) (by decide) (by decide)
    have p1 := pk.1
    have p2 := pk.2.1
    have w4 : pw pF3 pR3 (wgf s 24) (wgf s 28) s s4 := pw_tr q3 (ps_pw a1 (by omega) (by omega))
    have q64 : ∀ j : Nat, j < 2000 → 0 ≤ wga s4 606 j ∧ wga s4 606 j ≤ 8 := fun j hj => by rw [ps_r a1 (by decide) (by decide) (by decide)]; exact q6 j hj
    have fin : ∀ s5 : im_S, pw pF3 pR3 (wgf s 24) (wgf s 28) s s5 → (∀ j : Nat, j < 2000 → 0 ≤ wga s5 606 j ∧ wga s5 606 j ≤ 8) → W_findTimes_112 (fun b => (∃ k : Nat, b.1 = k ∧ k ≤ nb ∧ pw pF3 pR3 (wgf s 24) (wgf s 28) s b.2 ∧ wgf b.2 24 = wgf s 24 ∧ wgf b.2 28 = wgf s 28 ∧ (∀ j : Nat, j < 2000 → 0 ≤ wga b.2 606 j ∧ wga b.2 606 j ≤ 8)) ∧ ((nb : Int) - b.1).toNat < ((nb : Int) - k).toNat) (fun b => (∃ l : Nat, b.1 = l ∧ l ≤ n ∧ pw pF3 pR3 (wgf s 24) (wgf s 28) s b.2 ∧ wgf b.2 24 = wgf s 24 ∧ wgf b.2 28 = wgf s 28 ∧ (∀ j : Nat, j < 2000 → 0 ≤ wga b.2 606 j ∧ wga b.2 606 j ≤ 8)) ∧ ((n : Int) - b.1).toNat < ((n : Int) - l).toNat) (k : Int) (l : Int) (wgf s3 28) (wgf s3 24) s5 Q := by
      intro s5 v1 v2
      unfold W_findTimes_112
      refine giveBack_ok (fun s6 g1 g2 g3 g4 g5 => ⟨⟨by omega, by omega⟩, ⟨l + 1, by dsimp only; omega, by omega, ?_, by dsimp only; omega, by dsimp only; omega, fun j hj => ?_⟩, by dsimp only; omega⟩)
      · refine ⟨fun c f h => ?_, fun c i q1 q2 q3 q4 => ?_⟩
        · dsimp only
          rw [g1 c f (fun z => h ⟨z.1, by rcases z.2 with e | e | e; exact Or.inl e; exact Or.inr (Or.inr (Or.inl e)); exact Or.inr (Or.inr (Or.inr (by rw [e]; decide)))⟩)]
          exact v1.1 c f h
        · dsimp only
          rw [g2]; exact v1.2 c i q1 q2 q3 q4
      · have : wga s6 606 (j : Int) = wga s5 606 (j : Int) := by show s6.2 606 _ = _; rw [g2]; rfl
        dsimp only
        rw [this]; exact v2 j hj
    refine ⟨⟨a4.1, by omega⟩, ⟨by omega, by omega⟩, by rw [e602]; exact ⟨p1, by omega⟩, fun _ => fin s4 w4 q64, fun _ => ⟨⟨by omega, by omega⟩, ⟨by omega, by omega⟩, ⟨by omega, by omega⟩, fun s5 e5 => ?_⟩⟩
    refine fin s5 (by rw [e5]; exact pw_pa w4 (by decide)) (fun j hj => ?_)
    rw [e5]
    by_cases ej : (j : Int) = 10 * (k : Int) + wga s4 604 (l : Int)
    · rw [ej, wg_same, e605]; exact ⟨by omega, by omega⟩
    · rw [wg_ne (by omega) (by omega) ej]; exact q64 j hj
  · dsimp only
    rw [e2]
    by_cases ej : j = i
    · subst ej; exact wg_same
    · rw [wg_ne (by omega) (by omega) (by omega)]; exact i6 j (by omega)
