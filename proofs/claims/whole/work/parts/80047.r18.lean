/-! wait, make, settle: the reference's small ones -/
def wtf9 (s s' : im_S) : Prop := gfr (fun c f => c = 582 ∧ (f = 10 ∨ f = 12)) (fun c => c = 586 ∨ c = 587) s s'
theorem make_r {x : Int} {s : im_S} {Q : im_S → Prop} (hQ : ∀ s', wtf9 s s' → Q s') : C_make10 x s Q := fun _ s1 e1 s2 e2 => hQ s2 (by subst e2; subst e1; exact gfr_pf (gfr_pa (gfr_refl _ _ _) (Or.inl rfl)) ⟨rfl, by omega⟩)
theorem wait_r {x : Int} {s : im_S} {Q : im_S → Prop} (hQ : ∀ s', wtf9 s s' → Q s') : C_wait110 x s Q := fun _ s1 e1 s2 e2 => hQ s2 (by subst e2; subst e1; exact gfr_pf (gfr_pa (gfr_refl _ _ _) (Or.inr rfl)) ⟨rfl, by omega⟩)
theorem settle_r {x : Int} {s : im_S} {Q : im_S → Prop} (hQ : ∀ s', wtf9 s s' → Q s') : C_settle10 x s Q := by
  refine ⟨fun a => wtf9 s a, gfr_refl _ _ _, fun a f => ?_⟩
  refine ⟨fun _ => hQ a f, fun _ _ => ⟨fun _ => hQ a f, fun _ _ => ⟨fun _ => hQ a f, fun _ s1 e1 _ => make_r (fun s2 f2 => ?_)⟩⟩⟩
  have f1 : wtf9 s s1 := by subst e1; exact gfr_pf f ⟨rfl, by omega⟩
  exact gfr_trans f1 f2
theorem rgs_wt {tx : Nat → Int} {n j : Nat} {s s' : im_S} (h : rgs tx n s j) (f : wtf9 s s') : rgs tx n s' j := by
  obtain ⟨a, i, b, c⟩ := h
  exact ⟨by rw [f.1 _ _ (by omega)]; exact a, i, by rw [f.1 _ _ (by omega)]; exact b, c⟩
theorem rbd_wt {s s' : im_S} {e : Int × Int} (h : rbd s e) (f : wtf9 s s') : rbd s' e := ⟨by rw [f.1 _ _ (by omega)]; exact h.1, h.2.1, by rw [f.1 _ _ (by omega)]; exact h.2.2⟩
theorem rat_wt {s s' : im_S} {A : ats} (h : rat s A) (f : wtf9 s s') : rat s' A := by
  obtain ⟨a, b, c⟩ := h
  refine ⟨by rw [f.1 _ _ (by omega)]; exact a, b, fun i p w e => ?_⟩
  obtain ⟨x, y, z⟩ := c i p w e
  exact ⟨fun k hk => by rw [f.2 _ (by omega)]; exact x k hk, y, by rw [f.2 _ (by omega)]; exact z⟩
theorem rtx_wt {tx : Nat → Int} {n : Nat} {s s' : im_S} (h : rtx tx n s) (f : wtf9 s s') : rtx tx n s' := rtx_fr h f (by omega) (by omega)
/-- readAtom of the reference from any place -/
theorem readAtom_q {tx : Nat → Int} {n i : Nat} {q : ou Unit} {A : ats} {r : ou ats} {s : im_S} {Q : im_S → Prop} (hc : rtx tx n s) (h0 : s.1 582 2 = 0) (hi : s.1 582 4 = (i : Int)) (aq : adv tx n i q) (hA : rat s A) (hw : (∃ e, q = .inl e ∧ r = .inl e) ∨ ∃ j, q = .inr (j, ()) ∧ tAT tx n j A r) (hQ1 : ∀ e s', rbd s' e → r = .inl e → Q s') (hQ2 : ∀ s' j' A', r = .inr (j', A') → rgs tx n s' j' → (j' < n → tok (tx j')) → rtx tx n s' → rat s' A' → taf s s' → Q s') : C_readAtom10 s Q := by
  rcases hw with ⟨e, eq, er⟩ | ⟨j, eq, g⟩
  · subst eq
    have b74 : ∀ (l : Int) (s1 : im_S), rbd s1 e → C_readAtom10_74 l s1 Q := fun l s1 b => good_r (fun z => absurd (b.1.symm.trans z) b.2.1) (fun _ => ⟨fun z => absurd rfl z, fun _ => hQ1 e s1 b er⟩)
    have b49 : ∀ (l : Int) (s1 : im_S), rbd s1 e → C_readAtom10_49 l s1 Q := fun l s1 b => good_r (fun z => absurd (b.1.symm.trans z) b.2.1) (fun _ => ⟨fun _ => b74 l s1 b, fun z => absurd rfl z⟩)
    have b19 : ∀ (l : Int) (s1 : im_S), rbd s1 e → C_readAtom10_19 l s1 Q := fun l s1 b => good_r (fun z => absurd (b.1.symm.trans z) b.2.1) (fun _ => ⟨fun _ => b49 l s1 b, fun z => absurd rfl z⟩)
    refine readSum_q (R := .inl e) hc h0 hi aq (Or.inl ⟨e, rfl, rfl⟩) (fun e' s1 b eR => ?_) (fun s1 _ _ dn => ?_)
    · cases eR
      exact good_r (fun z => absurd (b.1.symm.trans z) b.2.1) (fun _ => ⟨fun _ => b19 _ s1 b, fun z => absurd rfl z⟩)
    · obtain ⟨_, _, _, eR, _⟩ := dn; cases eR
  · subst eq
    obtain ⟨sk, tk⟩ := adv_sk aq
    exact readAtom_r hc ⟨h0, i, hi, sk⟩ tk hA g hQ1 hQ2
