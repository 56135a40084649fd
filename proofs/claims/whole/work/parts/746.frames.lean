/-! long numbers whose value doesn't matter -/
theorem trim_f {a : Nat} {s : im_S} {Q : im_S → Prop} (hQ : ∀ s', bfr a s s' → Q s') : C_trim1 a s Q := by
  refine ⟨fun s' => bfr a s s', bfr_refl _ _, fun s' f => ?_⟩
  have fin : C_trim1_34 a s' Q := ⟨fun _ => hQ s' f, fun _ s3 e => by subst e; exact hQ _ (bfr_pf f (Or.inr rfl))⟩
  exact ⟨fun _ => fin, fun _ _ => ⟨fun _ => fin, fun _ s10 e => by subst e; exact bfr_pf f (Or.inl rfl)⟩⟩
theorem set_f {a : Nat} {s : im_S} {v : Int} {Q : im_S → Prop} (hQ : ∀ s', bfr a s s' → Q s') : C_set1 a v s Q := by
  intro z _ s12 e12 s13 e13 u _
  have f : bfr a s s13 := by subst e12; subst e13; exact bfr_pf (bfr_pf (bfr_refl _ _) (Or.inr rfl)) (Or.inl rfl)
  refine ⟨fun q => bfr a s q.2, f, fun q f => ?_⟩
  exact ⟨fun _ => hQ _ f, fun _ => ⟨fun _ => hQ _ f, fun _ _ s6 e6 s8 e8 => by subst e6; subst e8; exact bfr_pf (bfr_pa f) (Or.inl rfl)⟩⟩
theorem copy_f {a b : Nat} {s : im_S} {Q : im_S → Prop} (hQ : ∀ s', bfr a s s' → Q s') : C_copy1 a b s Q := by
  intro z _ s4 e4 _ s6 e6 s8 e8
  subst e4
  subst e6
  subst e8
  exact hQ _ (bfr_pf (bfr_ccp (bfr_pf (bfr_refl _ _) (Or.inl rfl))) (Or.inr rfl))
theorem shiftUp_f {a : Nat} {s : im_S} {v : Int} {Q : im_S → Prop} (hQ : ∀ s', bfr a s s' → Q s') : C_shiftUp1 a v s Q := by
  refine ⟨fun _ => hQ s (bfr_refl _ _), fun _ => ⟨fun _ z _ => ?_, fun _ => hQ s (bfr_refl _ _)⟩⟩
  refine ⟨fun q => bfr a s q.2, bfr_refl _ _, fun q f => ?_⟩
  exact ⟨fun _ s2 e2 => trim_f (fun s3 f3 => hQ _ (bfr_trans (by subst e2; exact bfr_pf f (Or.inl rfl)) f3)), fun _ u _ x _ _ s4 e4 => by subst e4; exact bfr_pa f⟩
theorem shiftDown_f {a : Nat} {s : im_S} {v : Int} {Q : im_S → Prop} (hQ : ∀ s', bfr a s s' → Q s') : C_shiftDown1 a v s Q := by
  refine ⟨fun _ => hQ s (bfr_refl _ _), fun _ => ⟨fun _ => ?_, fun _ => hQ s (bfr_refl _ _)⟩⟩
  refine ⟨fun q => bfr a s q.2, bfr_refl _ _, fun q f => ?_⟩
  exact ⟨fun _ => trim_f (fun s3 f3 => hQ _ (bfr_trans f f3)), fun _ u _ x _ _ s4 e4 => by subst e4; exact bfr_pa f⟩
theorem grow_f {a b : Nat} {s : im_S} {Q : im_S → Prop} (hQ : ∀ s', bfr a s s' → Q s') : C_grow1 a b s Q := by
  intro z _
  refine ⟨fun q => bfr a s q.2.2, bfr_refl _ _, fun q f => ⟨fun _ u _ s5 e5 => ?_, fun _ _ v _ _ s4 e4 => by subst e4; exact bfr_pa f⟩⟩
  refine ⟨fun q => bfr a s q.2.2, by subst e5; exact bfr_pf f (Or.inl rfl), fun q f => ⟨fun _ => hQ _ f, fun _ => ⟨fun _ => hQ _ f, fun _ v _ _ s4 e4 w _ s6 e6 => ?_⟩⟩⟩
  subst e4
  subst e6
  exact bfr_pf (bfr_pa f) (Or.inl rfl)
theorem shrink_f {a b : Nat} {s : im_S} {Q : im_S → Prop} (hQ : ∀ s', bfr a s s' → Q s') : C_shrink1 a b s Q := by
  intro z _ y _
  refine ⟨fun q => bfr a s q.2.2, bfr_refl _ _, fun q f => ⟨fun _ s6 e6 => ?_, fun _ v _ u _ _ s4 e4 => by subst e4; exact bfr_pa f⟩⟩
  have f6 : bfr a s s6 := by subst e6; exact bfr_pf f (Or.inl rfl)
  refine ⟨fun _ => hQ _ f6, fun _ s10 e10 => ?_⟩
  refine ⟨fun q => bfr a s q.2.2, by subst e10; exact bfr_pf f6 (Or.inr rfl), fun q f => ⟨fun _ => hQ _ f, fun _ _ _ s3 e3 => by subst e3; exact bfr_pa f⟩⟩
theorem add_f {a b : Nat} {s : im_S} {w : Int} {Q : im_S → Prop} (hQ : ∀ s', bfr a s s' → Q s') : C_add1 a b w s Q := by
  refine ⟨fun _ => ⟨fun _ => ⟨fun _ => ?_, fun _ => ?_⟩, fun _ => ?_⟩, fun _ => hQ s (bfr_refl _ _)⟩
  · exact shrink_f (fun s' f => trim_f (fun s2 f2 => hQ _ (bfr_trans f f2)))
  · exact grow_f (fun s' f => hQ _ f)
  · exact copy_f (fun s' f s15 e => by subst e; exact hQ _ (bfr_pf f (Or.inr rfl)))
theorem setProduct_f {a b c : Nat} {s : im_S} {Q : im_S → Prop} (hQ : ∀ s', bfr a s s' → Q s') : C_setProduct1 a b c s Q := by
  intro s1 e1
  have f1 : bfr a s s1 := by subst e1; exact bfr_pf (bfr_refl _ _) (Or.inr rfl)
  have main : ∀ z, C_setProduct1_42 a b c z s1 Q := by
    intro z s2 e2
    have f2 : bfr a s s2 := by subst e2; exact bfr_pf f1 (Or.inl rfl)
    refine ⟨fun q => bfr a s q.2, f2, fun q f => ⟨fun _ => ?_, fun _ _ s4 e4 => by subst e4; exact bfr_pa f⟩⟩
    refine ⟨fun q => bfr a s q.2, f, fun q f => ⟨fun _ => trim_f (fun s3 f3 => hQ _ (bfr_trans f f3)), fun _ => ⟨fun _ => trim_f (fun s3 f3 => hQ _ (bfr_trans f f3)), fun _ _ y _ => ?_⟩⟩⟩
    refine ⟨fun q => bfr a s q.2.2, f, fun q f => ⟨fun _ => ⟨fun _ => f, fun _ _ s7 e7 => by subst e7; exact bfr_pa f⟩, fun _ _ _ _ s4 e4 => by subst e4; exact bfr_pa f⟩⟩
  exact ⟨fun _ z _ => main z, fun _ => main 0⟩
theorem compareSize_f {a b : Nat} {s : im_S} {Q : Int → im_S → Prop} (hQ : ∀ z, Q z s) : C_compareSize1 a b s Q := by
  refine ⟨fun _ => ⟨fun q => q.2 = s, rfl, fun q f => ⟨fun _ => by rw [f]; exact hQ _, fun _ _ _ => ⟨fun _ => f, fun _ _ _ v _ => by rw [f]; exact hQ _⟩⟩⟩, fun _ v _ => hQ v⟩
theorem width_f {s : im_S} {v : Int} {Q : Int → im_S → Prop} (hQ : ∀ z, Q z s) : C_width1 v s Q := by
  refine ⟨fun q => q.2.2.2 = s, rfl, fun q f => ⟨fun _ v _ => by rw [f]; exact hQ _, fun _ u _ w _ => f⟩⟩
theorem bits_f {a : Nat} {s : im_S} {Q : Int → im_S → Prop} (hQ : ∀ z, Q z s) : C_bits1 a s Q :=
  ⟨fun _ _ => width_f (fun _ => hQ _), fun _ => hQ _⟩
theorem toLong_f {a : Nat} {s : im_S} {Q : Int → im_S → Prop} (hQ : ∀ z, Q z s) : C_toLong1 a s Q := by
  intro z _
  refine ⟨fun q => q.2.2 = s, rfl, fun q f => ⟨fun _ v _ => by rw [f]; exact hQ _, fun _ _ => f⟩⟩
theorem isEven_f {a : Nat} {s : im_S} {Q : Int → im_S → Prop} (hQ : ∀ z, Q z s) : C_isEven1 a s Q := fun z _ => hQ z
