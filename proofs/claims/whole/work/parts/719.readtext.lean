/-! a text is read -/
abbrev tF : List Nat := [2, 3, 4, 6, 10, 12, 21]
abbrev tR : List Nat := [584, 585, 586, 587, 589, 590, 591, 592, 593, 594, 595, 596]
def rtI (s0 : im_S) (l1 l2 l3 l4 : Int) (a : im_S) : Prop := fw tF tR s0 a ∧ atR a ∧ (0 ≤ wgf a 6 ∧ wgf a 6 ≤ 10) ∧ (0 ≤ l1 ∧ l1 ≤ 11) ∧ (0 ≤ l2 ∧ l2 ≤ 11) ∧ ∃ w mk : Nat, wgf a 12 = w ∧ wgf a 10 = mk ∧ ((mk + w : Nat) : Int) ≤ wgf a 4 ∧ (∀ k : Nat, k < w → -4 ≤ wga a 587 (k : Int) ∧ wga a 587 (k : Int) ≤ -1) ∧ wO a w = l1 ∧ (wgf a 2 = 0 → l1 ≤ 10 ∧ l2 ≤ 10 ∧ (∀ i : Int, 0 ≤ i → i < 9 * wgf a 6 → fn9 (wga a 584 i)) ∧ mok a mk ∧ mdp a mk = wB a w + (if l3 = 0 then 1 else 0) ∧ (l4 ≠ 0 → l3 = 0))
def rtM (l4 : Int) (a : im_S) : Nat := if l4 ≠ 0 ∨ wgf a 2 ≠ 0 then 0 else (401 - wgf a 4).toNat
theorem rtM_lt {l4 : Int} {s1 s2 : im_S} (g : wgf s1 2 = 0) (a1 : atR s1) (h : wgf s2 2 = 0 → l4 = 0 → wgf s1 4 < wgf s2 4) : rtM l4 s2 < rtM 0 s1 := by
  unfold rtM
  unfold atR at a1
  rw [if_neg (show ¬ ((0 : Int) ≠ 0 ∨ wgf s1 2 ≠ 0) by first | omega | (dsimp only; omega))]
  split
  · omega
  · rename_i q
    have := h (by first | omega | (dsimp only; omega)) (by first | omega | (dsimp only; omega))
    omega
theorem rt_wait {s0 s s' : im_S} {l1 l2 l3 l1' l2' l3' v : Int} {Q : im_S → Prop} (hI : rtI s0 l1 l2 l3 0 s) (hv : v = -1 ∨ v = -2 ∨ v = -3 ∨ v = -4) (hat : wgf s 4 < wgf s 1) (b1 : 0 ≤ l1' ∧ l1' ≤ 11) (b2 : 0 ≤ l2' ∧ l2' ≤ 11) (e1 : l1' = l1 + (if v = -4 then 1 else 0)) (g1 : wgf s 2 = 0 → l1' ≤ 10) (g2 : wgf s 2 = 0 → l2' ≤ 10) (e3 : (if l3 = 0 then (1 : Int) else 0) = (if v = -2 ∨ v = -3 then 1 else 0) + (if l3' = 0 then 1 else 0)) (hQ : ∀ s' : im_S, rtI s0 l1' l2' l3' 0 s' → wgf s 4 < wgf s' 4 → (wgf s' 2 = wgf s 2) → Q s') : W_wait1 v s (fun s1 => iR (wgf s1 4 + 1) ∧ ∀ s2, s2 = wpf s1 4 (wgf s1 4 + 1) → Q s2) := by
  obtain ⟨i1, i2, i3, i4, i5, w, mk, i6, i7, i8, i9, i10, i11⟩ := hI
  have a2 := i2
  unfold atR at a2
  refine wait1_ok i6 (by first | omega | (dsimp only; omega)) (fun s1 c1 c2 c3 c4 => ?_)
  have x4 := fw_f c1 4 (by first | decide | omega | (dsimp only; omega) | (dsimp only; decide))
  have x1 := fw_f c1 1 (by first | decide | omega | (dsimp only; omega) | (dsimp only; decide))
  refine ⟨by unfold iR; first | omega | (dsimp only; omega), fun s2 e2 => ?_⟩
  have m2 : fw tF tR s s2 := by rw [e2]; exact fw_pf (fw_mono c1 (by simp) (by simp)) (by first | decide | omega | (dsimp only; omega) | (dsimp only; decide))
  have y4 : wgf s2 4 = wgf s 4 + 1 := by rw [e2, wf_same, x4]
  have ff : ∀ f : Nat, f ≠ 4 → f ≠ 12 → wgf s2 f = wgf s f := fun f h1 h2 => by rw [e2, wf_ne h1, fw_f c1 _ (by simpa using h2)]
  have y1 := ff 1 (by first | decide | omega | (dsimp only; omega) | (dsimp only; decide)) (by first | decide | omega | (dsimp only; omega) | (dsimp only; decide))
  have y2 := ff 2 (by first | decide | omega | (dsimp only; omega) | (dsimp only; decide)) (by first | decide | omega | (dsimp only; omega) | (dsimp only; decide))
  have y6 := ff 6 (by first | decide | omega | (dsimp only; omega) | (dsimp only; decide)) (by first | decide | omega | (dsimp only; omega) | (dsimp only; decide))
  have y10 := ff 10 (by first | decide | omega | (dsimp only; omega) | (dsimp only; decide)) (by first | decide | omega | (dsimp only; omega) | (dsimp only; decide))
  have y12 : wgf s2 12 = ((w + 1 : Nat) : Int) := by rw [e2, wf_ne (by first | decide | omega | (dsimp only; omega) | (dsimp only; decide))]; exact c2
  have r : ∀ (c : Nat) (i : Int), c ≠ 587 → wga s2 c i = wga s c i := fun c i h => by rw [e2, wg_pf, fw_r c1 _ _ (by simpa using h)]
  have rk : ∀ k : Nat, k < w → wga s2 587 (k : Int) = wga s 587 (k : Int) := fun k hk => by rw [e2, wg_pf]; exact c4 _ (by first | omega | (dsimp only; omega)) (by first | omega | (dsimp only; omega))
  have rw' : wga s2 587 (w : Int) = v := by rw [e2, wg_pf]; exact c3
  refine hQ s2 ⟨fw_tr i1 m2, by unfold atR; first | omega | (dsimp only; omega), by first | omega | (dsimp only; omega), b1, b2, w + 1, mk, y12, by first | omega | (dsimp only; omega), by first | omega | (dsimp only; omega), fun k hk => ?_, ?_, fun z => ?_⟩ (by first | omega | (dsimp only; omega)) y2
  · by_cases q : k < w
    · rw [rk k q]; exact i9 k q
    · rw [show k = w by first | omega | (dsimp only; omega), rw']; omega
  · show wO s2 w + (if wga s2 587 (w : Int) = -4 then 1 else 0) = l1'
    rw [wO_co rk, rw', i10, e1]
  · obtain ⟨z1, z2, z3, z4, z5, z6⟩ := i11 (by first | omega | (dsimp only; omega))
    refine ⟨g1 (by first | omega | (dsimp only; omega)), g2 (by first | omega | (dsimp only; omega)), fun i j0 j1 => by rw [r _ _ (by first | decide | omega | (dsimp only; omega) | (dsimp only; decide))]; exact z3 i j0 (by first | omega | (dsimp only; omega)), mok_co (fun i _ => r _ _ (by first | decide | omega | (dsimp only; omega) | (dsimp only; decide))) z4, ?_, fun c => absurd rfl c⟩
    rw [mdp_co (fun i _ => r _ _ (by first | decide | omega | (dsimp only; omega) | (dsimp only; decide))), z5]
    show _ = wB s2 w + (if wga s2 587 (w : Int) = -2 ∨ wga s2 587 (w : Int) = -3 then 1 else 0) + _
    rw [wB_co rk, rw', e3]
    omega
theorem rt_settle {s0 s : im_S} {l1 l2 l4 l : Int} {Q : im_S → Prop} (hI : rtI s0 l1 l2 0 l4 s) (hQ : ∀ s' : im_S, rtI s0 l1 l2 0 l4 s' → (wgf s' 4 = wgf s 4 ∧ wgf s' 1 = wgf s 1 ∧ wgf s' 2 = wgf s 2) → (∃ w : Nat, wgf s' 12 = w ∧ (w = 0 ∨ wga s' 587 ((w : Int) - 1) < l ∨ wga s' 587 ((w : Int) - 1) = -4)) → Q s') : W_settle l s Q := by
  obtain ⟨i1, i2, i3, i4, i5, w, mk, i6, i7, i8, i9, i10, i11⟩ := hI
  have a2 := i2
  unfold atR at a2
  refine settle_ok i6 i7 (by first | omega | (dsimp only; omega)) i9 (fun s' w' mk' b1 b2 b3 b4 b5 b6 b7 b8 => ?_)
  have r : ∀ (c : Nat) (i : Int), c ≠ 586 → wga s' c i = wga s c i := fun c i h => fw_r b1 _ _ (by simpa using h)
  have ff : ∀ f : Nat, f ≠ 10 → f ≠ 12 → wgf s' f = wgf s f := fun f h1 h2 => fw_f b1 _ (by simp [h1, h2])
  have x1 := ff 1 (by first | decide | omega | (dsimp only; omega) | (dsimp only; decide)) (by first | decide | omega | (dsimp only; omega) | (dsimp only; decide))
  have x2 := ff 2 (by first | decide | omega | (dsimp only; omega) | (dsimp only; decide)) (by first | decide | omega | (dsimp only; omega) | (dsimp only; decide))
  have x4 := ff 4 (by first | decide | omega | (dsimp only; omega) | (dsimp only; decide)) (by first | decide | omega | (dsimp only; omega) | (dsimp only; decide))
  have x6 := ff 6 (by first | decide | omega | (dsimp only; omega) | (dsimp only; decide)) (by first | decide | omega | (dsimp only; omega) | (dsimp only; decide))
  refine hQ s' ⟨fw_tr i1 (fw_mono b1 (by simp) (by simp)), by unfold atR; first | omega | (dsimp only; omega), by first | omega | (dsimp only; omega), i4, i5, w', mk', b2, b3, by first | omega | (dsimp only; omega), fun k hk => by rw [r _ _ (by first | decide | omega | (dsimp only; omega) | (dsimp only; decide))]; exact i9 k (by first | omega | (dsimp only; omega)), ?_, fun z => ?_⟩ ⟨x4, x1, x2⟩ ⟨w', b2, by rw [r _ _ (by first | decide | omega | (dsimp only; omega) | (dsimp only; decide))]; exact b7⟩
  · rw [wO_co (fun k _ => r _ _ (by first | decide | omega | (dsimp only; omega) | (dsimp only; decide))), b6]; exact i10
  · obtain ⟨z1, z2, z3, z4, z5, z6⟩ := i11 (by first | omega | (dsimp only; omega))
    rw [if_pos rfl] at z5
    obtain ⟨m1, m2⟩ := b8 z4 z5
    exact ⟨z1, z2, fun i j0 j1 => by rw [r _ _ (by first | decide | omega | (dsimp only; omega) | (dsimp only; decide))]; exact z3 i j0 (by first | omega | (dsimp only; omega)), m1, by rw [if_pos rfl, wB_co (fun k _ => r _ _ (by first | decide | omega | (dsimp only; omega) | (dsimp only; decide)))]; exact m2, z6⟩
theorem rt_move {s0 s s' : im_S} {l1 l2 l3 l4 : Int} (hI : rtI s0 l1 l2 l3 l4 s) (h : fw [2, 3, 4] [] s s') (ha : atR s') (h4 : wgf s 4 ≤ wgf s' 4) (h2 : wgf s' 2 = 0 → wgf s 2 = 0) : rtI s0 l1 l2 l3 l4 s' := by
  obtain ⟨i1, i2, i3, i4, i5, w, mk, i6, i7, i8, i9, i10, i11⟩ := hI
  have r : ∀ (c : Nat) (i : Int), wga s' c i = wga s c i := fun c i => fw_r h _ _ (by simp)
  have x6 := fw_f h 6 (by first | decide | omega | (dsimp only; omega) | (dsimp only; decide))
  have x10 := fw_f h 10 (by first | decide | omega | (dsimp only; omega) | (dsimp only; decide))
  have x12 := fw_f h 12 (by first | decide | omega | (dsimp only; omega) | (dsimp only; decide))
  refine ⟨fw_tr i1 (fw_mono h (by simp) (by simp)), ha, by first | omega | (dsimp only; omega), i4, i5, w, mk, by first | omega | (dsimp only; omega), by first | omega | (dsimp only; omega), by first | omega | (dsimp only; omega), fun k hk => by rw [r]; exact i9 k hk, by rw [wO_co (fun k _ => r _ _)]; exact i10, fun z => ?_⟩
  obtain ⟨z1, z2, z3, z4, z5, z6⟩ := i11 (h2 z)
  exact ⟨z1, z2, fun i j0 j1 => by rw [r]; exact z3 i j0 (by first | omega | (dsimp only; omega)), mok_co (fun i _ => r _ _) z4, by rw [mdp_co (fun i _ => r _ _), wB_co (fun k _ => r _ _)]; exact z5, z6⟩
theorem rt_bad {s0 s : im_S} {l1 l2 l3 l4 l3' l4' : Int} (hI : rtI s0 l1 l2 l3 l4 s) (h : wgf s 2 ≠ 0) : rtI s0 l1 l2 l3' l4' s := by
  obtain ⟨i1, i2, i3, i4, i5, w, mk, i6, i7, i8, i9, i10, i11⟩ := hI
  exact ⟨i1, i2, i3, i4, i5, w, mk, i6, i7, i8, i9, i10, fun z => absurd z h⟩
