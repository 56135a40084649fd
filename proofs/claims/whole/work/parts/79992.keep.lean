/-! EVERY PUBLIC METHOD KEEPS THE SLOTS, THE NUMBERS AND THE ONES -/
theorem kp1_wk {s s' : im_S} (h : kp1 s) (f : wkf s s') : kp1 s' := kp1_co h f (fun c k e => by omega) (fun c e => by omega) (fun k => by omega) (fun k => by omega) (by omega) (by omega)
theorem kp1_pa {s : im_S} {c : Nat} {i x : Int} (h : kp1 s) (hc : c = 3 ∨ c = 580 ∨ c = 581) : kp1 (cpa s c i x) := by
  have f : gfr (fun _ _ => False) (fun b => b = c) s (cpa s c i x) := gfr_pa (gfr_refl _ _ _) rfl
  exact kp1_co h f (fun c k e => e.elim) (fun c e => by omega) (fun k z => z) (fun k z => z) (by omega) (by omega)
theorem kp1_p0 {s : im_S} {x : Int} (h : kp1 s) : kp1 (cpf s 0 0 x) := by
  have f : gfr (fun c _ => c = 0) (fun _ => False) s (cpf s 0 0 x) := gfr_pf (gfr_refl _ _ _) rfl
  exact kp1_co h f (fun c k e => by omega) (fun c e => e.elim) (fun k => by omega) (fun k => by omega) (fun z => z) (fun z => z)
theorem type_k {x : Int} {s : im_S} {Q : Int → im_S → Prop} (h : kp1 s) (hQ : ∀ z s', kp1 s' → Q z s') : C_type9 x s Q := by
  intro v ev
  refine ⟨fun _ => hQ _ _ h, fun _ => ⟨fun _ _ s1 e1 s2 e2 => hQ _ _ ?_, fun _ => hQ _ _ h⟩⟩
  subst e2; subst e1
  exact kp1_p0 (kp1_pa h (by omega))
theorem four_k {x : Int} {s : im_S} {Q : Int → im_S → Prop} (h : kp1 s) (hQ : ∀ z s', kp1 s' → Q z s') : C_four9 x s Q := by
  refine ⟨fun a => a.2.2 = s, rfl, ?_⟩
  rintro ⟨u, v, s1⟩ e
  dsimp only at e ⊢
  subst e
  refine ⟨fun _ => ⟨fun _ => ?_, fun _ => hQ _ _ h⟩, fun _ => ⟨fun _ v ev => rfl, fun _ v ev => ⟨fun _ w ew => rfl, fun _ => hQ _ _ h⟩⟩⟩
  refine ⟨fun a => kp1 a.2, h, ?_⟩
  rintro ⟨u, s2⟩ h2
  dsimp only at h2 ⊢
  refine ⟨fun _ => hQ _ _ h2, fun _ => ⟨fun _ => h2, fun _ => ⟨fun _ => h2, fun _ _ s3 e3 s4 e4 => ?_⟩⟩⟩
  subst e4; subst e3
  exact kp1_p0 (kp1_pa h2 (by omega))
theorem count_k {x : Int} {s : im_S} {Q : Int → im_S → Prop} (hQ : ∀ z, Q z s) : C_count9 x s Q :=
  ⟨fun _ => ⟨fun _ => ⟨fun _ => ⟨fun _ => ⟨fun _ => ⟨fun _ v _ => hQ _, fun _ => hQ _⟩, fun _ => hQ _⟩, fun _ => hQ _⟩, fun _ => hQ _⟩, fun _ => hQ _⟩, fun _ => hQ _⟩
theorem rootsOf_k {x : Int} {s : im_S} {Q : Int → im_S → Prop} (hQ : ∀ z, Q z s) : C_rootsOf4 x s Q := by
  refine ⟨fun a => a.2.2 = s, rfl, ?_⟩
  rintro ⟨u, v, s1⟩ e
  dsimp only at e ⊢
  subst e
  exact ⟨fun _ => hQ _, fun _ => rootAt_k (fun r => mult_k (fun z v _ => rfl))⟩
theorem distinct_k {x : Int} {s : im_S} {Q : Int → im_S → Prop} (hQ : ∀ z, Q z s) : C_distinctRoots0 x s Q := by
  refine ⟨fun a => a.2.2 = s, rfl, ?_⟩
  rintro ⟨u, v, s1⟩ e
  dsimp only at e ⊢
  subst e
  exact ⟨fun _ => hQ _, fun _ => mult_k (fun z v _ => rfl)⟩
theorem shared_k {x : Int} {s : im_S} {Q : Int → im_S → Prop} (hQ : ∀ z, Q z s) : C_sharedDegree0 x s Q := by
  refine ⟨fun a => a.2.2 = s, rfl, ?_⟩
  rintro ⟨u, v, s1⟩ e
  dsimp only at e ⊢
  subst e
  refine ⟨fun _ => hQ _, fun _ => ⟨fun a => a.2.2 = s1, rfl, ?_⟩⟩
  rintro ⟨u2, v2, s2⟩ e
  dsimp only at e ⊢
  subst e
  exact ⟨fun _ v _ => rfl, fun _ => ⟨fun _ => rfl, fun _ => mult_k (fun z => ⟨fun _ => rfl, fun _ => mult_k (fun z2 v _ => rfl)⟩)⟩⟩
theorem atom_k {x y : Int} {s : im_S} {Q : Int → im_S → Prop} (hQ : ∀ z, Q z s) : C_atom9 x y s Q := by
  intro v ev
  exact ⟨fun _ => hQ _, fun _ => ⟨fun _ => hQ _, fun _ => ⟨fun _ => ⟨fun _ => ⟨fun _ => ⟨fun _ => rootsOf_k (fun z => ⟨fun _ => distinct_k (fun z2 => hQ _), fun _ => hQ _⟩), fun _ _ => hQ _⟩, fun _ w _ => hQ _⟩, fun _ _ => hQ _⟩, fun _ => hQ _⟩⟩⟩
theorem holds_k {x : Int} {s : im_S} {Q : Int → im_S → Prop} (hQ : ∀ z, Q z s) : C_holds9 x s Q := fun _ _ => ⟨fun _ _ _ => hQ _, fun _ => hQ _⟩
theorem sign_k {x y : Int} {s : im_S} {Q : Int → im_S → Prop} (hQ : ∀ z, Q z s) : C_sign9 x y s Q := fun _ _ => ⟨fun _ => hQ _, fun _ _ _ => ⟨fun _ => hQ _, fun _ => hQ _⟩⟩
theorem judge_k {x : Int} {s : im_S} {Q : Int → im_S → Prop} (hQ : ∀ z, Q z s) : C_judge9 x s Q :=
  ⟨fun _ => ⟨fun _ _ _ => hQ _, fun _ _ _ => hQ _, fun _ => hQ _, fun _ => hQ _, fun _ => hQ _, fun _ _ _ => hQ _, fun _ _ _ => hQ _, fun _ _ _ => hQ _, fun _ _ _ => hQ _, fun _ => hQ _⟩, fun _ => hQ _⟩
theorem scaled_k {r : Nat} {x : Int} {s : im_S} {Q : Int → im_S → Prop} (h : kp1 s) (hQ : ∀ z s', kp1 s' → Q z s') : C_scaledFloor3 r x s Q :=
  ⟨fun _ => ⟨fun _ => hQ _ _ h, fun _ => compareWith_f h.2.1 (fun z s1 f1 v _ => hQ _ _ (kp1_wk h f1))⟩, fun _ => hQ _ _ h⟩
theorem root_k {x y : Int} {s : im_S} {Q : Int → im_S → Prop} (h : kp1 s) (hQ : ∀ z s', kp1 s' → Q z s') : C_root9 x y s Q := by
  intro v ev
  refine ⟨fun _ => hQ _ _ h, fun _ => ⟨fun _ => hQ _ _ h, fun _ => ⟨fun _ => ?_, fun _ => hQ _ _ h⟩⟩⟩
  refine ⟨fun a => a.2.2 = s, rfl, ?_⟩
  rintro ⟨u, v, s1⟩ e
  dsimp only at e ⊢
  subst e
  exact ⟨fun _ => rootAt_k (fun r => scaled_k h hQ), fun _ => rfl⟩
theorem times_k {x y : Int} {s : im_S} {Q : Int → im_S → Prop} (hQ : ∀ z, Q z s) : C_times9 x y s Q :=
  fun _ _ => ⟨fun _ => hQ _, fun _ _ _ => ⟨fun _ => ⟨fun _ => rootAt_k (fun r => mult_k hQ), fun _ => hQ _⟩, fun _ => hQ _⟩⟩
theorem exact_k {x y : Int} {s : im_S} {Q : Int → im_S → Prop} (hQ : ∀ z, Q z s) : C_exact9 x y s Q :=
  fun _ _ => ⟨fun _ => hQ _, fun _ => ⟨fun _ => hQ _, fun _ => ⟨fun _ => rootAt_k (fun r => ⟨fun _ _ _ => hQ _, fun _ => hQ _⟩), fun _ => hQ _⟩⟩⟩
theorem common_k {x : Int} {s : im_S} {Q : Int → im_S → Prop} (hQ : ∀ z, Q z s) : C_common9 x s Q :=
  fun _ _ => ⟨fun _ => rootAt_k (fun r => shared_k hQ), fun _ => hQ _⟩
theorem locate_k {x y w : Int} {s : im_S} {Q : Int → im_S → Prop} (h : kp1 s) (hQ : ∀ z s', kp1 s' → Q z s') : C_locate4 x y w s Q := by
  refine ⟨fun a => kp1 a.2.2, h, ?_⟩
  rintro ⟨u, v, s1⟩ h1
  dsimp only at h1 ⊢
  exact ⟨fun _ => hQ _ _ h1, fun _ => rootAt_k (fun r => compareWith_f h1.2.1 (fun z s2 f2 => ⟨fun _ _ _ _ _ => kp1_wk h1 f2, fun _ => hQ _ _ (kp1_wk h1 f2)⟩))⟩
theorem fillAt_k {x : Int} {s : im_S} {Q : im_S → Prop} (h : kp1 s) (hQ : ∀ s', kp1 s' → Q s') : C_fillAt4 x s Q :=
  rootAt_k (fun r _ s1 e1 => ⟨fun _ _ _ _ s2 e2 => hQ _ (by subst e2; subst e1; exact kp1_pa (kp1_pa h (by omega)) (by omega)), fun _ _ s2 e2 => hQ _ (by subst e2; subst e1; exact kp1_pa (kp1_pa h (by omega)) (by omega))⟩)
theorem descend_k {x y : Int} {s : im_S} {Q : im_S → Prop} (h : kp1 s) (hQ : ∀ s', kp1 s' → Q s') : C_descend4 x y s Q := by
  refine rootAt_k (fun r => rootAt_k (fun r2 _ s1 e1 => ?_))
  refine ⟨fun a => kp1 a.2.2.2.2, by subst e1; exact kp1_pa h (by omega), ?_⟩
  rintro ⟨a1, a2, a3, a4, s2⟩ h2
  dsimp only at h2 ⊢
  refine ⟨fun _ => hQ _ h2, fun _ => compareWith_f h2.2.1 (fun z s3 f3 => ⟨fun _ => compareWith_f (kp1_wk h2 f3).2.1 (fun z2 s4 f4 => ⟨fun _ _ s5 e5 _ s6 e6 => hQ _ ?_, fun _ => kp1_wk (kp1_wk h2 f3) f4⟩), fun _ => kp1_wk h2 f3⟩)⟩
  subst e6; subst e5
  exact kp1_pa (kp1_pa (kp1_wk (kp1_wk h2 f3) f4) (by omega)) (by omega)
theorem between_k {x : Int} {s : im_S} {Q : im_S → Prop} (h : kp1 s) (hQ : ∀ s', kp1 s' → Q s') : C_fillBetween4 x s Q := by
  have e94 : ∀ y z s1, kp1 s1 → C_fillBetween4_94 x y z s1 Q := fun y z s1 h1 _ s2 e2 _ s3 e3 => by
    have h3 : kp1 s3 := by subst e3; subst e2; exact kp1_pa (kp1_pa h1 (by omega)) (by omega)
    exact ⟨fun _ => hQ _ h3, fun _ => locate_k h3 (fun z s4 h4 => ⟨fun _ => hQ _ h4, fun _ v _ => descend_k h4 (fun s5 h5 => hQ _ h5)⟩)⟩
  exact fun _ => ⟨fun _ => locate_k h (fun z s1 h1 => ⟨fun _ => ⟨fun _ => e94 _ _ _ h1, fun _ => rootAt_k (fun r v _ => e94 _ _ _ h1)⟩, fun _ => rootAt_k (fun r => e94 _ _ _ h1)⟩), fun _ => hQ _ h⟩
theorem simple_k {x y : Int} {s : im_S} {Q : Int → im_S → Prop} (h : kp1 s) (hQ : ∀ z s', kp1 s' → Q z s') : C_simple9 x y s Q := by
  have e46 : ∀ s1, kp1 s1 → C_simple9_46 x y s1 Q := fun s1 h1 _ => ⟨fun _ _ _ => hQ _ _ h1, fun _ => hQ _ _ h1⟩
  exact fun _ _ => ⟨fun _ => hQ _ _ h, fun _ => ⟨fun _ => hQ _ _ h, fun _ => ⟨fun _ => ⟨fun _ => fillAt_k h e46, fun _ => between_k h e46⟩, fun _ => hQ _ _ h⟩⟩⟩
theorem cellOf_k {x y : Int} {s : im_S} {Q : Int → im_S → Prop} (h : kp1 s) (hQ : ∀ z s', kp1 s' → Q z s') : C_cellOf9 x y s Q := by
  refine ⟨fun _ => hQ _ _ h, fun _ v _ => ⟨fun _ => ?_, fun _ => hQ _ _ h⟩⟩
  have e2 : ∀ z, C_J9_floorMod_7cf53 x y s (fun z9 s8 => C_locate4 z z9 y s8 (fun z11 s10 => Q z11 s10)) := fun z =>
    ⟨fun _ => locate_k h hQ, fun _ => ⟨fun _ => locate_k h hQ, fun _ => locate_k h hQ⟩⟩
  exact ⟨fun _ => e2 _, fun _ => ⟨fun _ => e2 _, fun _ => e2 _⟩⟩
theorem signAt_k {x y w : Int} {s : im_S} {Q : Int → im_S → Prop} (h : kp1 s) (hQ : ∀ z s', kp1 s' → Q z s') : C_signAt9 x y w s Q :=
  fun _ _ => ⟨fun _ => hQ _ _ h, fun _ _ _ => ⟨fun _ => signAt_f h.2.1 (fun z s1 f1 => hQ _ _ (kp1_wk h f1)), fun _ => hQ _ _ h⟩⟩
