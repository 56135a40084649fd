/-! part1: an atom's polynomial in parts without double roots -/
def dsm (c : Nat → List Int) : Nat → Nat
  | 0 => 0
  | n + 1 => dsm c n + ((c n).length - 1)
theorem dsm_co {c d : Nat → List Int} : ∀ {n : Nat}, (∀ k, k < n → d k = c k) → dsm d n = dsm c n
  | 0, _ => rfl
  | n + 1, h => by
    show dsm d n + ((d n).length - 1) = dsm c n + ((c n).length - 1)
    rw [dsm_co (n := n) (fun k hk => h k (by omega)), h n (by omega)]
/-- a factor's place among the found ones -/
def fie (s : im_S) (k : Nat) (P : List Int) : Prop := pol s (wga s 603 k) P ∧ ow P ∧ (0 ≤ wga s 604 k ∧ wga s 604 k < 10) ∧ (1 ≤ wga s 605 k ∧ wga s 605 k ≤ 8)
def fi (s : im_S) (n : Nat) (c : Nat → List Int) : Prop := wgf s 36 = n ∧ wgf s 28 = n ∧ 0 ≤ wgf s 24 ∧ wgf s 24 ≤ 40 * n ∧ ∀ k : Nat, k < n → fie s k (c k)
theorem dsm_n {c : Nat → List Int} : ∀ {n : Nat}, (∀ k, k < n → 2 ≤ (c k).length) → n ≤ dsm c n
  | 0, _ => Nat.le_refl _
  | n + 1, h => by
    have a := dsm_n (n := n) (fun k hk => h k (by omega))
    have b := h n (by omega)
    show n + 1 ≤ dsm c n + ((c n).length - 1)
    omega
theorem dsm_a {c : Nat → List Int} {n : Nat} : ∀ {m : Nat}, (∀ k, n ≤ k → k < n + m → 2 ≤ (c k).length) → dsm c n + m ≤ dsm c (n + m)
  | 0, _ => Nat.le_refl _
  | m + 1, h => by
    have a := dsm_a (n := n) (m := m) (fun k h1 h2 => h k h1 (by omega))
    have b := h (n + m) (by omega) (by omega)
    show dsm c n + (m + 1) ≤ dsm c (n + m) + ((c (n + m)).length - 1)
    omega
theorem sy_pw {fs rs : List Nat} {i lo pl : Int} {s s' : im_S} (h : sy i s s') (h1 : 32 ∈ fs) (h2 : 601 ∈ rs) : pw fs rs lo pl s s' := ⟨fun c f q => h.1 c f (fun z => q ⟨z.1, Or.inr (Or.inr (Or.inr (by rw [z.2]; exact h1)))⟩), fun c j _ _ _ q4 => h.2 c j (fun z => q4 (by rw [z.1]; exact h2))⟩
/-- where the polynomials that stay begin -/
def pos (c : Nat → List Int) (n : Nat) : Nat → Int
  | 0 => 0
  | q + 1 => pos c n q + ofs (c (n + q)) (c (n + q)).length
theorem pos_b {c : Nat → List Int} {n : Nat} : ∀ {q : Nat}, (∀ i, i < q → ow (c (n + i))) → 0 ≤ pos c n q ∧ pos c n q ≤ 37 * q
  | 0, _ => ⟨Int.le_refl 0, Int.le_refl 0⟩
  | q + 1, h => by
    have a := pos_b (c := c) (n := n) (q := q) (fun i hi => h i (by omega))
    have w := h q (by omega)
    have b := ofs_le (pab_lb (fct_pab w.1)) (c (n + q)).length
    have d := ofs_pos (c (n + q)) (c (n + q)).length
    have l := w.1.1.2.1
    show 0 ≤ pos c n q + ofs (c (n + q)) (c (n + q)).length ∧ pos c n q + ofs (c (n + q)) (c (n + q)).length ≤ _
    omega
theorem pos_m {c : Nat → List Int} {n i : Nat} : ∀ {q : Nat}, i < q → (∀ j, j < q → ow (c (n + j))) → pos c n i + ofs (c (n + i)) (c (n + i)).length ≤ pos c n q
  | 0, h, _ => absurd h (Nat.not_lt_zero i)
  | q + 1, h, ho => by
    by_cases e : i = q
    · subst e; exact Int.le_refl _
    · have a := pos_m (c := c) (n := n) (i := i) (q := q) (by omega) (fun j hj => ho j (by omega))
      have d := ofs_pos (c (n + q)) (c (n + q)).length
      show _ ≤ pos c n q + ofs (c (n + q)) (c (n + q)).length
      omega
abbrev pF1 : List Nat := [32, 33, 36]
abbrev pR1 : List Nat := [601, 603, 604, 605]
theorem part1_215 {s s1 : im_S} {n m : Nat} {c' : Nat → List Int} {Q : im_S → Prop} (hs : pw pF1 pR1 (wgf s 24) (wgf s 28) s s1) (h28 : wgf s1 28 = wgf s 28) (h24 : wgf s1 24 = wgf s 24) (h33 : wgf s1 33 = 0) (h36 : wgf s1 36 = ((n + m : Nat) : Int)) (hm8 : m ≤ 8) (hnm : n + m ≤ 80) (hn28 : wgf s 28 = n) (h0 : 0 ≤ wgf s 24) (ht : wgf s 24 ≤ 40 * n) (how : ∀ i, i < m → ow (c' (n + i))) (hmv : ∀ i, i < m → mvp s1 (pos c' n i) (c' (n + i))) (hQ : ∀ s', pw pF1 pR1 (wgf s 24) (wgf s 28) s s' → wgf s' 36 = ((n + m : Nat) : Int) → wgf s' 28 = ((n + m : Nat) : Int) → wgf s 24 ≤ wgf s' 24 → wgf s' 24 ≤ 40 * ((n + m : Nat) : Int) → (∀ k : Int, 0 ≤ k → k < n → wga s' 603 k = wga s1 603 k) → (∀ k : Int, wga s' 604 k = wga s1 604 k) → (∀ k : Int, wga s' 605 k = wga s1 605 k) → (∀ i : Nat, i < m → pol s' (wga s' 603 ((n + i : Nat) : Int)) (c' (n + i))) → Q s') : wloop (fun (K : Int × im_S → Prop) (a : Int × im_S) => W_part1_215 K a.1 a.2 Q) ((n : Int), s1) := by
  have f33 : (33 : Nat) ∈ pF1 := by decide
  refine ⟨fun a => ∃ q : Nat, a.1 = ((n + q : Nat) : Int) ∧ q ≤ m ∧ pw pF1 pR1 (wgf s 24) (wgf s 28) s a.2 ∧ wgf a.2 33 = pos c' n q ∧ wgf a.2 28 = ((n + q : Nat) : Int) ∧ wgf s 24 ≤ wgf a.2 24 ∧ wgf a.2 24 ≤ 40 * ((n + q : Nat) : Int) ∧ wgf a.2 36 = ((n + m : Nat) : Int) ∧ (∀ k : Int, 0 ≤ k → k < n → wga a.2 603 k = wga s1 603 k) ∧ (∀ k : Int, wga a.2 604 k = wga s1 604 k) ∧ (∀ k : Int, wga a.2 605 k = wga s1 605 k) ∧ (∀ k : Int, wga a.2 601 k = wga s1 601 k) ∧ (∀ i : Nat, i < q → pol a.2 (wga a.2 603 ((n + i : Nat) : Int)) (c' (n + i))), fun a => (((n + m : Nat) : Int) - a.1).toNat, ⟨0, rfl, by omega, hs, h33, by dsimp only; omega, by dsimp only; omega, by dsimp only; omega, h36, fun _ _ _ => rfl, fun _ => rfl, fun _ => rfl, fun _ => rfl, fun i hi => by omega⟩, ?_⟩
  rintro ⟨k0, s2⟩ ⟨q, i1, i2, i3, i4, i5, i6, i7, i8, i9, i10, i11, i12, i13⟩
  dsimp only at i1 i2 i3 i4 i5 i6 i7 i8 i9 i10 i11 i12 i13 ⊢
  subst i1
  unfold W_part1_215
  refine ⟨fun c => ?_, fun c => ?_⟩
  · have eq : q = m := by omega
    subst eq
    exact hQ s2 i3 i8 i5 i6 i7 i9 i10 i11 i13
  · have hq : q < m := by omega
    have w := how q hq
    have l9 := w.1.1.2.1
    have ol := ofs_le (pab_lb (fct_pab w.1)) (c' (n + q)).length
    have op := ofs_pos (c' (n + q)) (c' (n + q)).length
    have pb := pos_b (c := c') (n := n) (q := q) (fun i hi => how i (by omega))
    have mv : mvp s2 (wgf s2 33) (c' (n + q)) := by
      have z := hmv q hq
      rw [i4]
      refine ⟨by rw [i12]; exact z.1, fun k hk => ?_⟩
      obtain ⟨s0, x, a, b⟩ := z.2 k hk
      exact ⟨s0, x, a, fun t t1 t2 => by rw [i12]; exact b t t1 t2⟩
    refine comeBack_ok mv l9 (by omega) (by omega) (by omega) (by omega) (by omega) (by omega) (fun s3 a1 a2 a3 a4 a5 => ⟨⟨by omega, by omega⟩, fun s4 e4 => ⟨⟨by omega, by omega⟩, ⟨q + 1, by dsimp only; omega, by omega, ?_, ?_, ?_, ?_, ?_, ?_, fun k k0 k1 => ?_, fun k => ?_, fun k => ?_, fun k => ?_, fun i hi => ?_⟩, by dsimp only; omega⟩⟩)
    · rw [e4]
      refine pw_pa (pw_tr i3 (pw_mono a1 (fun f hf => ?_) (fun r hr => nomatch hr) (by omega) (by omega))) (by decide)
      rw [List.mem_singleton.1 hf]; exact f33
    · dsimp only; rw [e4, wf_pa, a2, i4]; rfl
    · dsimp only; rw [e4, wf_pa]; omega
    · dsimp only; rw [e4, wf_pa]; omega
    · dsimp only; rw [e4, wf_pa]; omega
    · dsimp only; rw [e4, wf_pa, pw_f a1 (by decide)]; exact i8
    · dsimp only
      rw [e4, wg_ne (by omega) (by omega) (by omega), pw_r a1 (by decide) (by decide) (by decide) (by decide)]
      exact i9 k k0 k1
    · dsimp only; rw [e4, wg_row (by decide), pw_r a1 (by decide) (by decide) (by decide) (by decide)]; exact i10 k
    · dsimp only; rw [e4, wg_row (by decide), pw_r a1 (by decide) (by decide) (by decide) (by decide)]; exact i11 k
    · dsimp only; rw [e4, wg_row (by decide), pw_r a1 (by decide) (by decide) (by decide) (by decide)]; exact i12 k
    · dsimp only
      by_cases ei : i = q
      · subst ei
        rw [e4, wg_same]
        exact pol_pa (by decide) (by decide) (by decide) a5
      · rw [e4, wg_ne (by omega) (by omega) (by omega), pw_r a1 (by decide) (by decide) (by decide) (by decide)]
        refine pol_pa (by decide) (by decide) (by decide) (pw_pol a1 ⟨by decide, by decide, by decide⟩ (Int.le_refl _) (by omega) (Int.le_refl _) (by omega) (by omega) (i13 i (by omega)))
theorem part1_179 {s s1 : im_S} {n m : Nat} {c' : Nat → List Int} {Q : im_S → Prop} (hs : pw pF1 pR1 (wgf s 24) (wgf s 28) s s1) (h36 : wgf s1 36 = ((n + m : Nat) : Int)) (hm8 : m ≤ 8) (hnm : n + m ≤ 80) (hn28 : wgf s 28 = n) (h0 : 0 ≤ wgf s 24) (ht : wgf s 24 ≤ 40 * n) (hp : ∀ i : Nat, i < m → pol s1 (wga s1 603 ((n + i : Nat) : Int)) (c' (n + i))) (how : ∀ i, i < m → ow (c' (n + i))) (h32 : wgf s1 32 = 0) (hQ : ∀ s', pw pF1 pR1 (wgf s 24) (wgf s 28) s s' → wgf s' 36 = ((n + m : Nat) : Int) → wgf s' 28 = ((n + m : Nat) : Int) → wgf s 24 ≤ wgf s' 24 → wgf s' 24 ≤ 40 * ((n + m : Nat) : Int) → (∀ k : Int, 0 ≤ k → k < n → wga s' 603 k = wga s1 603 k) → (∀ k : Int, wga s' 604 k = wga s1 604 k) → (∀ k : Int, wga s' 605 k = wga s1 605 k) → (∀ i : Nat, i < m → pol s' (wga s' 603 ((n + i : Nat) : Int)) (c' (n + i))) → Q s') : wloop (fun (K : Int × im_S → Prop) (a : Int × im_S) => W_part1_179 K (wgf s 28) (wgf s 24) (n : Int) a.1 a.2 Q) ((n : Int), s1) := by
  refine ⟨fun a => ∃ q : Nat, a.1 = ((n + q : Nat) : Int) ∧ q ≤ m ∧ sy 0 s1 a.2 ∧ wgf a.2 32 = pos c' n q ∧ ∀ i : Nat, i < q → mvp a.2 (pos c' n i) (c' (n + i)), fun a => (((n + m : Nat) : Int) - a.1).toNat, ⟨0, rfl, by omega, sy_rfl, h32, fun i hi => by omega⟩, ?_⟩
  rintro ⟨k0, s2⟩ ⟨q, i1, i2, i3, i4, i5⟩
  dsimp only at i1 i2 i3 i4 i5 ⊢
  subst i1
  unfold W_part1_179
  have e36 : wgf s2 36 = ((n + m : Nat) : Int) := by rw [sy_f i3 (by decide)]; exact h36
  refine ⟨fun c => ?_, fun c => ?_⟩
  · have eq : q = m := by omega
    subst eq
    refine giveBack_ok (fun s3 b1 b2 b3 b4 b5 => ?_)
    have w2 : pw pF1 pR1 (wgf s 24) (wgf s 28) s s2 := pw_tr hs (sy_pw i3 (by decide) (by decide))
    have w3 : pw pF1 pR1 (wgf s 24) (wgf s 28) s s3 := by
      refine ⟨fun c f h => ?_, fun c i q1 q2 q3 q4 => ?_⟩
      · rw [b1 c f (fun z => h ⟨z.1, by rcases z.2 with e | e | e; exact Or.inl e; exact Or.inr (Or.inr (Or.inl e)); exact Or.inr (Or.inr (Or.inr (by rw [e]; decide)))⟩)]
        exact w2.1 c f h
      · rw [b2]; exact w2.2 c i q1 q2 q3 q4
    have r3 : ∀ (r : Nat) (i : Int), r ≠ 601 → wga s3 r i = wga s1 r i := fun r i hr => by
      show s3.2 r i.toNat = _
      rw [b2]
      exact sy_r i3 hr
    refine part1_215 (c' := c') w3 b3 b4 b5 ?_ hm8 hnm hn28 h0 ht how (fun i hi => ?_) (fun s' d1 d2 d3 d4 d5 d6 d7 d8 d9 => hQ s' d1 d2 d3 d4 d5 (fun k k0 k1 => by rw [d6 k k0 k1]; exact r3 603 k (by decide)) (fun k => by rw [d7]; exact r3 604 k (by decide)) (fun k => by rw [d8]; exact r3 605 k (by decide)) d9)
    · have : wgf s3 36 = wgf s2 36 := b1 582 36 (by decide)
      rw [this]; exact e36
    · have z := i5 i hi
      have r : ∀ i : Int, wga s3 601 i = wga s2 601 i := fun i => by show s3.2 601 i.toNat = _; rw [b2]; rfl
      refine ⟨by rw [r]; exact z.1, fun k hk => ?_⟩
      obtain ⟨s0, x, a, b⟩ := z.2 k hk
      exact ⟨s0, x, a, fun t t1 t2 => by rw [r]; exact b t t1 t2⟩
  · have hq : q < m := by omega
    have w := how q hq
    have l9 := w.1.1.2.1
    have ol := ofs_le (pab_lb (fct_pab w.1)) (c' (n + q)).length
    have op := ofs_pos (c' (n + q)) (c' (n + q)).length
    have pb := pos_b (c := c') (n := n) (q := q) (fun i hi => how i (by omega))
    have pz : pol s2 (wga s2 603 ((n + q : Nat) : Int)) (c' (n + q)) := by
      rw [sy_r i3 (by decide)]
      exact sy_pol i3 (hp q hq)
    refine ⟨⟨by omega, by omega⟩, stay_ok pz (by omega) (by omega) (fun s3 a1 a2 a3 => ⟨⟨by omega, by omega⟩, ⟨q + 1, by dsimp only; omega, by omega, sy_tr i3 (sy_mono a1 (by omega)), ?_, fun i hi => ?_⟩, by dsimp only; omega⟩)⟩
    · dsimp only; rw [a2, i4]; rfl
    · dsimp only
      by_cases ei : i = q
      · subst ei
        rw [← i4]; exact a3
      · have pm := pos_m (c := c') (n := n) (i := i) (q := q) (by omega) (fun j hj => how j (by omega))
        have pb2 := pos_b (c := c') (n := n) (q := i) (fun j hj => how j (by omega))
        exact sy_mvp a1 pb2.1 (by omega) (i5 i (by omega))
