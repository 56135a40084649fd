/-! THE FRAME OF EVERY QUESTION -/
/-- what a question of the class may write: the Finder's own numbers, and the two of simple -/
def qsf (s s' : im_S) : Prop := gfr (fun c f => 555 ≤ c ∧ c ≤ 575 ∧ (f = 1 ∨ f = 2)) (fun c => (556 ≤ c ∧ c ≤ 576) ∨ c = 580 ∨ c = 581) s s'
theorem qsf_refl (s : im_S) : qsf s s := gfr_refl _ _ _
def kq1 (T s : im_S) : Prop := kp1 s ∧ qsf T s
theorem kq1_wk {T s s' : im_S} (h : kq1 T s) (f : wkf s s') : kq1 T s' := ⟨kp1_wk h.1 f, gfr_trans h.2 (gfr_mono f (fun c k e => e) (fun c e => Or.inl e))⟩
theorem kq1_pa {T s : im_S} {c : Nat} {i x : Int} (h : kq1 T s) (hc : c = 580 ∨ c = 581) : kq1 T (cpa s c i x) := ⟨kp1_pa h.1 (by omega), gfr_pa h.2 (Or.inr hc)⟩
theorem scaled_t {T : im_S} {r : Nat} {x : Int} {s : im_S} {Q : Int → im_S → Prop} (h : kq1 T s) (hQ : ∀ z s', kq1 T s' → Q z s') : C_scaledFloor3 r x s Q :=
  ⟨fun _ => ⟨fun _ => hQ _ _ h, fun _ => compareWith_f h.1.2.1 (fun z s1 f1 v _ => hQ _ _ (kq1_wk h f1))⟩, fun _ => hQ _ _ h⟩
theorem root_t {T : im_S} {x y : Int} {s : im_S} {Q : Int → im_S → Prop} (h : kq1 T s) (hQ : ∀ z s', kq1 T s' → Q z s') : C_root9 x y s Q := by
  intro v ev
  refine ⟨fun _ => hQ _ _ h, fun _ => ⟨fun _ => hQ _ _ h, fun _ => ⟨fun _ => ?_, fun _ => hQ _ _ h⟩⟩⟩
  refine ⟨fun a => a.2.2 = s, rfl, ?_⟩
  rintro ⟨u, v, s1⟩ e
  dsimp only at e ⊢
  subst e
  exact ⟨fun _ => rootAt_k (fun r => scaled_t h hQ), fun _ => rfl⟩
theorem locate_t {T : im_S} {x y w : Int} {s : im_S} {Q : Int → im_S → Prop} (h : kq1 T s) (hQ : ∀ z s', kq1 T s' → Q z s') : C_locate4 x y w s Q := by
  refine ⟨fun a => kq1 T a.2.2, h, ?_⟩
  rintro ⟨u, v, s1⟩ h1
  dsimp only at h1 ⊢
  exact ⟨fun _ => hQ _ _ h1, fun _ => rootAt_k (fun r => compareWith_f h1.1.2.1 (fun z s2 f2 => ⟨fun _ _ _ _ _ => kq1_wk h1 f2, fun _ => hQ _ _ (kq1_wk h1 f2)⟩))⟩
theorem fillAt_t {T : im_S} {x : Int} {s : im_S} {Q : im_S → Prop} (h : kq1 T s) (hQ : ∀ s', kq1 T s' → Q s') : C_fillAt4 x s Q :=
  rootAt_k (fun r _ s1 e1 => ⟨fun _ _ _ _ s2 e2 => hQ _ (by subst e2; subst e1; exact kq1_pa (kq1_pa h (by omega)) (by omega)), fun _ _ s2 e2 => hQ _ (by subst e2; subst e1; exact kq1_pa (kq1_pa h (by omega)) (by omega))⟩)
theorem descend_t {T : im_S} {x y : Int} {s : im_S} {Q : im_S → Prop} (h : kq1 T s) (hQ : ∀ s', kq1 T s' → Q s') : C_descend4 x y s Q := by
  refine rootAt_k (fun r => rootAt_k (fun r2 _ s1 e1 => ?_))
  refine ⟨fun a => kq1 T a.2.2.2.2, by subst e1; exact kq1_pa h (by omega), ?_⟩
  rintro ⟨a1, a2, a3, a4, s2⟩ h2
  dsimp only at h2 ⊢
  refine ⟨fun _ => hQ _ h2, fun _ => compareWith_f h2.1.2.1 (fun z s3 f3 => ⟨fun _ => compareWith_f (kq1_wk h2 f3).1.2.1 (fun z2 s4 f4 => ⟨fun _ _ s5 e5 _ s6 e6 => hQ _ ?_, fun _ => kq1_wk (kq1_wk h2 f3) f4⟩), fun _ => kq1_wk h2 f3⟩)⟩
  subst e6; subst e5
  exact kq1_pa (kq1_pa (kq1_wk (kq1_wk h2 f3) f4) (by omega)) (by omega)
theorem between_t {T : im_S} {x : Int} {s : im_S} {Q : im_S → Prop} (h : kq1 T s) (hQ : ∀ s', kq1 T s' → Q s') : C_fillBetween4 x s Q := by
  have e94 : ∀ y z s1, kq1 T s1 → C_fillBetween4_94 x y z s1 Q := fun y z s1 h1 _ s2 e2 _ s3 e3 => by
    have h3 : kq1 T s3 := by subst e3; subst e2; exact kq1_pa (kq1_pa h1 (by omega)) (by omega)
    exact ⟨fun _ => hQ _ h3, fun _ => locate_t h3 (fun z s4 h4 => ⟨fun _ => hQ _ h4, fun _ v _ => descend_t h4 (fun s5 h5 => hQ _ h5)⟩)⟩
  exact fun _ => ⟨fun _ => locate_t h (fun z s1 h1 => ⟨fun _ => ⟨fun _ => e94 _ _ _ h1, fun _ => rootAt_k (fun r v _ => e94 _ _ _ h1)⟩, fun _ => rootAt_k (fun r => e94 _ _ _ h1)⟩), fun _ => hQ _ h⟩
theorem simple_t {T : im_S} {x y : Int} {s : im_S} {Q : Int → im_S → Prop} (h : kq1 T s) (hQ : ∀ z s', kq1 T s' → Q z s') : C_simple9 x y s Q := by
  have e46 : ∀ s1, kq1 T s1 → C_simple9_46 x y s1 Q := fun s1 h1 _ => ⟨fun _ _ _ => hQ _ _ h1, fun _ => hQ _ _ h1⟩
  exact fun _ _ => ⟨fun _ => hQ _ _ h, fun _ => ⟨fun _ => hQ _ _ h, fun _ => ⟨fun _ => ⟨fun _ => fillAt_t h e46, fun _ => between_t h e46⟩, fun _ => hQ _ _ h⟩⟩⟩
theorem cellOf_t {T : im_S} {x y : Int} {s : im_S} {Q : Int → im_S → Prop} (h : kq1 T s) (hQ : ∀ z s', kq1 T s' → Q z s') : C_cellOf9 x y s Q := by
  refine ⟨fun _ => hQ _ _ h, fun _ v _ => ⟨fun _ => ?_, fun _ => hQ _ _ h⟩⟩
  have e2 : ∀ z, C_J9_floorMod_7cf53 x y s (fun z9 s8 => C_locate4 z z9 y s8 (fun z11 s10 => Q z11 s10)) := fun z =>
    ⟨fun _ => locate_t h hQ, fun _ => ⟨fun _ => locate_t h hQ, fun _ => locate_t h hQ⟩⟩
  exact ⟨fun _ => e2 _, fun _ => ⟨fun _ => e2 _, fun _ => e2 _⟩⟩
theorem signAt_t {T : im_S} {x y w : Int} {s : im_S} {Q : Int → im_S → Prop} (h : kq1 T s) (hQ : ∀ z s', kq1 T s' → Q z s') : C_signAt9 x y w s Q :=
  fun _ _ => ⟨fun _ => hQ _ _ h, fun _ _ _ => ⟨fun _ => signAt_f h.1.2.1 (fun z s1 f1 => hQ _ _ (kq1_wk h f1)), fun _ => hQ _ _ h⟩⟩
