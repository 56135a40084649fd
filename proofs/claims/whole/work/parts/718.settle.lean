/-! what waits -/
def wB (s : im_S) : Nat → Int
  | 0 => 0
  | k + 1 => wB s k + (if wga s 587 (k : Int) = -2 ∨ wga s 587 (k : Int) = -3 then 1 else 0)
def wO (s : im_S) : Nat → Int
  | 0 => 0
  | k + 1 => wO s k + (if wga s 587 (k : Int) = -4 then 1 else 0)
theorem wB_co {s s' : im_S} : ∀ {n : Nat}, (∀ k : Nat, k < n → wga s' 587 (k : Int) = wga s 587 (k : Int)) → wB s' n = wB s n
  | 0, _ => rfl
  | n + 1, h => by
    show wB s' n + _ = wB s n + _
    rw [wB_co (n := n) (fun k hk => h k (by first | omega | (dsimp only; omega))), h n (by first | omega | (dsimp only; omega))]
theorem wO_co {s s' : im_S} : ∀ {n : Nat}, (∀ k : Nat, k < n → wga s' 587 (k : Int) = wga s 587 (k : Int)) → wO s' n = wO s n
  | 0, _ => rfl
  | n + 1, h => by
    show wO s' n + _ = wO s n + _
    rw [wO_co (n := n) (fun k hk => h k (by first | omega | (dsimp only; omega))), h n (by first | omega | (dsimp only; omega))]
theorem wB_b {s : im_S} : ∀ n : Nat, 0 ≤ wB s n ∧ wB s n ≤ n
  | 0 => ⟨Int.le_refl 0, Int.le_refl 0⟩
  | n + 1 => by
    have := wB_b (s := s) n
    show 0 ≤ wB s n + (if _ then _ else _) ∧ wB s n + (if _ then _ else _) ≤ _
    split <;> omega
theorem mdp_b {s : im_S} : ∀ n : Nat, mdp s n ≤ n
  | 0 => Int.le_refl 0
  | n + 1 => by
    have := mdp_b (s := s) n
    show mdp s n + (if _ then _ else _) ≤ _
    split
    · omega
    · split <;> omega
theorem mok_s {s s' : im_S} {k : Nat} {e : Int} (h : mok s k) (k5 : k < 500) (hs : ∀ i : Nat, i < k → wga s' 586 (i : Int) = wga s 586 (i : Int)) (he : wga s' 586 (k : Int) = e) (h1 : e < 10) (h2 : mdp s k ≤ 300) (h3 : e = -1 → 1 ≤ mdp s k) (h4 : e < -1 → 2 ≤ mdp s k) (h5 : 0 ≤ mdp s k) : mok s' (k + 1) ∧ mdp s' (k + 1) = mdp s k + (if 0 ≤ e then 1 else if e = -1 then 0 else -1) := by
  have c := mdp_co (s := s) (s' := s') hs
  refine ⟨⟨by first | omega | (dsimp only; omega), fun i hi => ?_⟩, ?_⟩
  · by_cases q : i < k
    · exact (mok_co hs h).2 i q
    · have e1 : i = k := by first | omega | (dsimp only; omega)
      subst e1
      rw [he, c]
      exact ⟨h1, h2, h3, h4, h5⟩
  · show mdp s' k + _ = _
    rw [c, he]
theorem settle_ok {s : im_S} {l : Int} {w mk : Nat} {Q : im_S → Prop} (hw : wgf s 12 = w) (hm : wgf s 10 = mk) (hs : mk + w ≤ 450) (he : ∀ k : Nat, k < w → -4 ≤ wga s 587 (k : Int) ∧ wga s 587 (k : Int) ≤ -1) (hQ : ∀ (s' : im_S) (w' mk' : Nat), fw [10, 12] [586] s s' → wgf s' 12 = w' → wgf s' 10 = mk' → mk' + w' = mk + w → w' ≤ w → wO s w' = wO s w → (w' = 0 ∨ wga s 587 ((w' : Int) - 1) < l ∨ wga s 587 ((w' : Int) - 1) = -4) → (mok s mk → mdp s mk = wB s w + 1 → mok s' mk' ∧ mdp s' mk' = wB s w' + 1) → Q s') : W_settle l s Q := by
  unfold W_settle
  refine ⟨fun a => fw [10, 12] [586] s a ∧ ∃ w' mk' : Nat, wgf a 12 = w' ∧ wgf a 10 = mk' ∧ mk' + w' = mk + w ∧ w' ≤ w ∧ wO s w' = wO s w ∧ (mok s mk → mdp s mk = wB s w + 1 → mok a mk' ∧ mdp a mk' = wB s w' + 1), fun a => (wgf a 12).toNat, ⟨fw_rfl, w, mk, hw, hm, rfl, Nat.le_refl _, rfl, fun h1 h2 => ⟨h1, h2⟩⟩, ?_⟩
  rintro s2 ⟨i1, w', mk', i2, i3, i4, i5, i6, i7⟩
  have r : ∀ i : Int, wga s2 587 i = wga s 587 i := fun i => fw_r i1 _ _ (by first | decide | omega | (dsimp only; omega) | (dsimp only; decide))
  unfold W_settle_0 W_settle_64
  rw [i2, r]
  have fin : (w' = 0 ∨ wga s 587 ((w' : Int) - 1) < l ∨ wga s 587 ((w' : Int) - 1) = -4) → Q s2 := fun h => hQ s2 w' mk' i1 i2 i3 i4 i5 i6 h i7
  refine ⟨fun c => fin (Or.inl (by first | omega | (dsimp only; omega))), fun c => ⟨by first | omega | (dsimp only; omega), fun c1 => fin (Or.inr (Or.inl c1)), fun c1 => ⟨by first | omega | (dsimp only; omega), fun c2 => fin (Or.inr (Or.inr c2)), fun c2 => ⟨by unfold iR; first | omega | (dsimp only; omega), fun s3 e3 => ?_⟩⟩⟩⟩
  have x12 : wgf s3 12 = ((w' - 1 : Nat) : Int) := by rw [e3, wf_same]; omega
  have x10 : wgf s3 10 = mk' := by rw [e3, wf_ne (by first | decide | omega | (dsimp only; omega) | (dsimp only; decide))]; exact i3
  rw [x12]
  refine ⟨by first | omega | (dsimp only; omega), ?_⟩
  have ew : wga s3 587 ((w' - 1 : Nat) : Int) = wga s 587 ((w' - 1 : Nat) : Int) := by rw [e3, wg_pf]; exact r _
  have cast : ((w' : Int) - 1) = ((w' - 1 : Nat) : Int) := by first | omega | (dsimp only; omega)
  rw [cast] at c1 c2
  rw [ew]
  have eb := he (w' - 1) (by first | omega | (dsimp only; omega))
  refine make_ok (by first | omega | (dsimp only; omega)) (fun s4 b1 b2 b3 b4 => ⟨⟨fw_tr (by rw [e3]; exact fw_pf i1 (by first | decide | omega | (dsimp only; omega) | (dsimp only; decide))) (fw_mono b1 (by simp) (by simp)), w' - 1, mk' + 1, ?_, by first | omega | (dsimp only; omega), by first | omega | (dsimp only; omega), by first | omega | (dsimp only; omega), ?_, fun h1 h2 => ?_⟩, ?_⟩)
  · rw [fw_f b1 12 (by first | decide | omega | (dsimp only; omega) | (dsimp only; decide))]; exact x12
  · have : wO s (w' - 1 + 1) = wO s (w' - 1) + (if wga s 587 ((w' - 1 : Nat) : Int) = -4 then 1 else 0) := rfl
    rw [show w' - 1 + 1 = w' by first | omega | (dsimp only; omega), if_neg c2] at this
    omega
  · obtain ⟨m1, m2⟩ := i7 h1 h2
    have wb : wB s (w' - 1 + 1) = wB s (w' - 1) + (if wga s 587 ((w' - 1 : Nat) : Int) = -2 ∨ wga s 587 ((w' - 1 : Nat) : Int) = -3 then 1 else 0) := rfl
    rw [show w' - 1 + 1 = w' by first | omega | (dsimp only; omega)] at wb
    have bb := wB_b (s := s) w'
    have bb2 := wB_b (s := s) (w' - 1)
    have bm := mdp_b (s := s2) mk'
    have hm3 : ∀ i : Nat, i < mk' → wga s4 586 (i : Int) = wga s2 586 (i : Int) := fun i hi => by
      rw [b4 (i : Int) (by first | omega | (dsimp only; omega)) (by first | omega | (dsimp only; omega)), e3, wg_pf]
    have he3 : wga s4 586 (mk' : Int) = wga s 587 ((w' - 1 : Nat) : Int) := by rw [← x10]; exact b3
    generalize wga s 587 ((w' - 1 : Nat) : Int) = e at *
    obtain ⟨n1, n2⟩ := mok_s m1 (by first | omega | (dsimp only; omega)) hm3 he3 (by first | omega | (dsimp only; omega)) (by first | omega | (dsimp only; omega)) (fun q => by first | omega | (dsimp only; omega)) (fun q => by rw [if_pos (by first | omega | (dsimp only; omega))] at wb; omega) (by first | omega | (dsimp only; omega))
    refine ⟨n1, ?_⟩
    rw [n2, m2, if_neg (by first | omega | (dsimp only; omega))]
    by_cases q : e = -1
    · rw [if_pos q]
      rw [if_neg (by first | omega | (dsimp only; omega))] at wb
      omega
    · rw [if_neg q]
      rw [if_pos (by first | omega | (dsimp only; omega))] at wb
      omega
  · have := fw_f b1 12 (by first | decide | omega | (dsimp only; omega) | (dsimp only; decide))
    dsimp only
    omega
theorem wait1_ok {s : im_S} {v : Int} {w : Nat} {Q : im_S → Prop} (hw : wgf s 12 = w) (h5 : w < 500) (hQ : ∀ s' : im_S, fw [12] [587] s s' → wgf s' 12 = ((w + 1 : Nat) : Int) → wga s' 587 (w : Int) = v → (∀ i : Int, 0 ≤ i → i ≠ w → wga s' 587 i = wga s 587 i) → Q s') : W_wait1 v s Q := by
  unfold W_wait1
  rw [hw]
  refine ⟨by first | omega | (dsimp only; omega), fun s1 e1 => ?_⟩
  have x : wgf s1 12 = w := by rw [e1]; exact hw
  rw [x]
  refine ⟨by unfold iR; first | omega | (dsimp only; omega), fun s2 e2 => hQ s2 ?_ ?_ ?_ (fun i i0 hi => ?_)⟩
  · rw [e2, e1]; exact fw_pf (fw_pa fw_rfl (by first | decide | omega | (dsimp only; omega) | (dsimp only; decide))) (by first | decide | omega | (dsimp only; omega) | (dsimp only; decide))
  · rw [e2, wf_same]; omega
  · rw [e2, wg_pf, e1, wg_same]
  · rw [e2, wg_pf, e1, wg_ne (by first | omega | (dsimp only; omega)) i0 hi]
