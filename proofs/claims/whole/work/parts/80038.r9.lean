theorem lvf_pa {d c k : Nat} {s : im_S} {i x : Int} (h : ((c = 589 ∨ c = 590 ∨ c = 591) ∧ 9 * d ≤ k) ∨ ((c = 593 ∨ c = 594 ∨ c = 595) ∧ d ≤ k)) (hi : i.toNat = k) : lvf d s (cpa s c i x) := by
  refine ⟨gfr_pa (gfr_refl _ _ _) (by omega), fun c' k' hk hc => ?_, fun c' k' hk hc => ?_⟩
  · by_cases q : c' = c
    · subst q; rw [cpa_at hi, if_neg (by omega)]
    · rw [cpa_ne q]
  · by_cases q : c' = c
    · subst q; rw [cpa_at hi, if_neg (by omega)]
    · rw [cpa_ne q]
theorem lvf_pf {d f : Nat} {s : im_S} {x : Int} (h : (2 ≤ f ∧ f ≤ 4) ∨ f = 21) : lvf d s (cpf s 582 f x) := ⟨gfr_pf (gfr_refl _ _ _) ⟨rfl, h⟩, fun _ _ _ _ => rfl, fun _ _ _ _ => rfl⟩
/-- beginSum at depth d -/
theorem beginSum_r {tx : Nat → Int} {n d j : Nat} {s : im_S} {Q : im_S → Prop} (hc : rtx tx n s) (hd : d ≤ 10) (h : rgs tx n s j) (dp : s.1 582 21 = (d : Int)) (hQ : ∀ s' sg, ((nxc tx n j = 45 ∧ sg = -1 ∧ s'.1 582 4 = ((j + 1 : Nat) : Int)) ∨ (nxc tx n j ≠ 45 ∧ sg = 1 ∧ s'.1 582 4 = (j : Int))) → s'.1 582 2 = 0 → s'.1 582 21 = (d : Int) → rw9 s' 589 d (fun _ => 0) → rw1 s' 593 d sg → rw1 s' 595 d (-1) → lvf d s s' → Q s') : C_beginSum10 s Q := by
  have n400 := hc.2.1
  refine ⟨fun q => ∃ i : Nat, q.1 = (i : Int) ∧ i ≤ 9 ∧ lvf d s q.2 ∧ q.2.1 = s.1 ∧ ∀ k, k < i → q.2.2 589 (9 * d + k) = 0, ⟨0, rfl, by omega, lvf_refl _ _, rfl, fun k hk => by omega⟩, ?_⟩
  rintro ⟨x, s1⟩ ⟨i, e, i9, f1, q1, z1⟩
  dsimp only at e f1 q1 z1 ⊢
  subst e
  have d1 : ∀ s9 : im_S, s9.1 582 21 = s1.1 582 21 → cgf s9 582 21 = (d : Int) := fun s9 h => by show s9.1 582 21 = _; rw [h, q1]; exact dp
  unfold C_beginSum10_2
  rw [d1 s1 rfl]
  refine ⟨fun c _ s2 e2 => ?_, fun c => ?_⟩
  · have i99 : i = 9 := by omega
    subst i99
    rw [d1 s2 (by subst e2; rfl)]
    intro _ s3 e3
    rw [d1 s3 (by subst e3; subst e2; rfl)]
    intro _ s4 e4
    have f2 : lvf d s1 s2 := by subst e2; exact lvf_pa (k := d) (by omega) (by omega)
    have f3 : lvf d s2 s3 := by subst e3; exact lvf_pa (k := d) (by omega) (by omega)
    have f4 : lvf d s3 s4 := by subst e4; exact lvf_pa (k := d) (by omega) (by omega)
    have f04 := lvf_tr f1 (lvf_tr f2 (lvf_tr f3 f4 (Nat.le_refl _)) (Nat.le_refl _)) (Nat.le_refl _)
    have q4 : s4.1 = s.1 := by subst e4; subst e3; subst e2; exact q1
    have r9 : rw9 s4 589 d (fun _ => 0) := fun k hk => by
      subst e4; subst e3; subst e2
      rw [cpa_ne (by omega), cpa_ne (by omega), cpa_ne (by omega)]; exact z1 k hk
    have r3 : s4.2 593 d = 1 := by
      subst e4; subst e3; subst e2
      rw [cpa_ne (by omega), cpa_ne (by omega), cpa_at (m := d) (by omega), if_pos rfl]
    have r5 : s4.2 595 d = -1 := by
      subst e4
      rw [cpa_at (m := d) (by omega), if_pos rfl]
    refine peek_r (rtx_lv hc f04) (by rw [q4]; exact h.2) (fun s5 a5 b5 b6 f5 => ?_)
    have z5 : s5.1 582 2 = 0 := by rw [b5, q4]; exact h.1
    have g5 : s5.1 582 21 = (d : Int) := by rw [f5.1 _ _ (by omega), q4]; exact dp
    have f05 := lvf_tr f04 (lvf_pk (d := d) f5) (Nat.le_refl _)
    refine ⟨fun ne => hQ s5 1 (Or.inr ⟨fun z => ne ((nxr_c (by decide) (by decide)).mpr z), rfl, a5⟩) z5 g5 (fun k hk => by rw [f5.2 _ (fun z => z)]; exact r9 k hk) (by show s5.2 593 d = 1; rw [f5.2 _ (fun z => z)]; exact r3) (by show s5.2 595 d = -1; rw [f5.2 _ (fun z => z)]; exact r5) f05, fun eq => ?_⟩
    have e45 := (nxr_c (by decide) (by decide)).mp eq
    have jn : j < n := nxc_lt (by rw [e45]; decide)
    rw [show cgf s5 582 21 = (d : Int) from g5]
    intro _ s6 e6 s7 e7
    rw [show cgf s6 582 4 = (j : Int) by subst e6; exact a5, w32s (by omega)] at e7
    have f6 : lvf d s5 s6 := by subst e6; exact lvf_pa (k := d) (by omega) (by omega)
    have f7 : lvf d s6 s7 := by subst e7; exact lvf_pf (by omega)
    refine hQ s7 (-1) (Or.inl ⟨e45, rfl, ?_⟩) ?_ ?_ (fun k hk => ?_) ?_ ?_ (lvf_tr f05 (lvf_tr f6 f7 (Nat.le_refl _)) (Nat.le_refl _))
    · subst e7; exact cpf_same _ _ _ _
    · subst e7; subst e6; rw [cpf_ne (by omega)]; exact z5
    · subst e7; subst e6; rw [cpf_ne (by omega)]; exact g5
    · subst e7; subst e6
      show (cpa s5 593 (d : Int) (-1)).2 589 (9 * d + k) = 0
      rw [cpa_ne (by omega), f5.2 _ (fun z => z)]; exact r9 k hk
    · subst e7; subst e6
      show (cpa s5 593 (d : Int) (-1)).2 593 d = -1
      rw [cpa_at (m := d) (by omega), if_pos rfl]
    · subst e7; subst e6
      show (cpa s5 593 (d : Int) (-1)).2 595 d = -1
      rw [cpa_ne (by omega), f5.2 _ (fun z => z)]; exact r5
  · have i8 : i < 9 := by omega
    rw [w32_id (x := 9 * (d : Int)) (by omega) (by omega), w32_id (x := 9 * (d : Int) + (i : Int)) (by omega) (by omega)]
    intro _ s2 e2
    have f2 : lvf d s1 s2 := by subst e2; exact lvf_pa (k := 9 * d + i) (by omega) (by omega)
    refine ⟨i + 1, w32s (by omega), by omega, lvf_tr f1 f2 (Nat.le_refl _), by subst e2; exact q1, fun k hk => ?_⟩
    subst e2
    dsimp only
    rw [cpa_at (m := 9 * d + i) (by omega)]
    by_cases ck : k = i
    · subst ck; rw [if_pos rfl]
    · rw [if_neg (by omega)]; exact z1 k (by omega)
