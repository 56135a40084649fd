/-! findRoots behind restRoots -/
theorem findRoots_443 {s : im_S} {g : Int} {R0 k : Nat} {Q : im_S → Prop} (h41 : wgf s 41 = ((R0 + k : Nat) : Int)) (hk : R0 + k ≤ 80) (hQ : ∀ s', s'.1 = s.1 → (∀ c i : Nat, ¬ (c = 610 ∧ (R0 : Int) ≤ (i : Int)) → s'.2 c i = s.2 c i) → (∀ r : Nat, r < k → wga s' 610 ((R0 + r : Nat) : Int) = g) → Q s') : wloop (fun (K : Int × im_S → Prop) (a : Int × im_S) => W_findRoots_443 K g a.1 a.2 Q) ((R0 : Int), s) := by
  refine ⟨fun a => ∃ j : Nat, a.1 = ((R0 + j : Nat) : Int) ∧ j ≤ k ∧ a.2.1 = s.1 ∧ (∀ c i : Nat, ¬ (c = 610 ∧ (R0 : Int) ≤ (i : Int)) → a.2.2 c i = s.2 c i) ∧ (∀ r : Nat, r < j → wga a.2 610 ((R0 + r : Nat) : Int) = g), fun a => (((R0 + k : Nat) : Int) - a.1).toNat, ⟨0, rfl, by omega, rfl, fun _ _ _ => rfl, fun r hr => by omega⟩, ?_⟩
  rintro ⟨r0, s2⟩ ⟨j, i1, i2, i3, i4, i5⟩
  dsimp only at i1 i2 i3 i4 i5 ⊢
  subst i1
  have g41 : wgf s2 41 = ((R0 + k : Nat) : Int) := by
    rw [← h41]
    show s2.1 582 41 = s.1 582 41
    rw [i3]
  unfold W_findRoots_443
  refine ⟨fun q => ?_, fun q => ⟨⟨by omega, by omega⟩, fun s3 e3 => ⟨⟨by omega, by omega⟩, ⟨j + 1, by dsimp only; omega, by omega, ?_, fun c i hc => ?_, fun r hr => ?_⟩, by dsimp only; omega⟩⟩⟩
  · have ej : j = k := by omega
    subst ej
    exact hQ s2 i3 i4 i5
  · dsimp only
    rw [e3]
    exact i3
  · dsimp only
    rw [e3, ← i4 c i hc]
    exact im_up_ne (fun z => hc ⟨z.1, by have := z.2; omega⟩)
  · dsimp only
    by_cases er : r = j
    · subst er
      rw [e3]; exact wg_same
    · rw [e3, wg_ne (by omega) (by omega) (by omega)]
      exact i5 r (by omega)
