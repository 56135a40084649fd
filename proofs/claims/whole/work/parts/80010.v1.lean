/-! THE CLASS'S READER BY VALUE -/
/-- the text that the class holds -/
def ctx (tx : Nat → Int) (n : Nat) (s : im_S) : Prop := s.1 2 1 = (n : Int) ∧ n ≤ 400 ∧ (∀ k, k < n → s.2 3 k = tx k) ∧ ∀ k, k < n → 32 ≤ tx k ∧ tx k ≤ 126
def gdS (tx : Nat → Int) (n : Nat) (s : im_S) (j : Nat) : Prop := s.1 2 4 = 0 ∧ s.1 2 2 = (j : Int) ∧ s.1 2 3 = nxc tx n j ∧ j ≤ n
def bdS (s : im_S) (e : Int × Int) : Prop := s.1 2 4 = e.1 ∧ e.1 ≠ 0 ∧ s.1 2 5 = e.2 ∧ s.1 2 3 = 1
/-- only the reader's own fields have changed (not its atoms) -/
def lkf (s s' : im_S) : Prop := gfr (fun c f => c = 2 ∧ 2 ≤ f ∧ f ≤ 5) (fun _ => False) s s'
theorem lkf_refl (s : im_S) : lkf s s := gfr_refl _ _ _
theorem lkf_trans {s s' s2 : im_S} (h : lkf s s') (h2 : lkf s' s2) : lkf s s2 := gfr_trans h h2
theorem lkf_pf {s s' : im_S} {f : Nat} {x : Int} (h : lkf s s') (h1 : 2 ≤ f) (h2 : f ≤ 5) : lkf s (cpf s' 2 f x) := gfr_pf h ⟨rfl, h1, h2⟩
theorem ctx_fr {F : Nat → Nat → Prop} {R : Nat → Prop} {tx : Nat → Int} {n : Nat} {s s' : im_S} (h : ctx tx n s) (f : gfr F R s s') (h1 : ¬ F 2 1) (h2 : ¬ R 3) : ctx tx n s' := by
  obtain ⟨a, b, c, d⟩ := h
  exact ⟨by rw [f.1 _ _ h1]; exact a, b, fun k hk => by rw [f.2 _ h2]; exact c k hk, d⟩
theorem ctx_lk {tx : Nat → Int} {n : Nat} {s s' : im_S} (h : ctx tx n s) (f : lkf s s') : ctx tx n s' := ctx_fr h f (by omega) (fun z => z)
/-- what look leaves -/
def lkR (tx : Nat → Int) (n : Nat) (s' : im_S) : ou Unit → Prop
  | .inr (j, _) => gdS tx n s' j
  | .inl e => bdS s' e
theorem fail_g {l1 l2 : Int} {s : im_S} {Q : im_S → Prop} (h0 : s.1 2 4 = 0) (h1 : l1 ≠ 0) (hQ : ∀ s', bdS s' (l1, l2) → lkf s s' → Q s') : C_fail7 l1 l2 s Q := by
  refine ⟨fun c => absurd h0 c, fun _ s1 e1 s2 e2 s3 e3 => ?_⟩
  subst e3; subst e2; subst e1
  refine hQ _ ⟨?_, h1, ?_, cpf_same _ _ _ _⟩ (lkf_pf (lkf_pf (lkf_pf (lkf_refl _) (by omega) (by omega)) (by omega) (by omega)) (by omega) (by omega))
  · rw [cpf_ne (by omega), cpf_ne (by omega), cpf_same]
  · rw [cpf_ne (by omega), cpf_same]
theorem fail_bd {l1 l2 : Int} {s : im_S} {e : Int × Int} {Q : im_S → Prop} (h : bdS s e) (hQ : ∀ s', bdS s' e → Q s') : C_fail7 l1 l2 s Q := by
  obtain ⟨h1, h2, h3, h4⟩ := h
  refine ⟨fun _ s1 e1 => ?_, fun c => absurd (h1.symm.trans c) h2⟩
  subst e1
  exact hQ _ ⟨by rw [cpf_ne (by omega)]; exact h1, h2, by rw [cpf_ne (by omega)]; exact h3, cpf_same _ _ _ _⟩
theorem isDigit_g {x : Int} {s : im_S} {Q : Int → im_S → Prop} (h1 : dgt x → Q 1 s) (h2 : ¬ dgt x → Q 0 s) : C_isDigit7 x s Q := by
  intro v e
  subst e
  unfold dgt at h1 h2
  split
  · exact h2 (by omega)
  · split
    · exact h2 (by omega)
    · exact h1 (by omega)
