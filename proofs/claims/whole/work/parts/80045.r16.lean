/-- readSum of the reference: the grammar's outcome -/
theorem readSum_r {tx : Nat → Int} {n j : Nat} {R : ou po} {s : im_S} {Q : im_S → Prop} (hc : rtx tx n s) (h : rgs tx n s j) (tk : j < n → tok (tx j)) (g : Gx tx n 4 poX 0 j R) (hQ1 : ∀ e s', rbd s' e → R = .inl e → Q s') (hQ2 : ∀ s', lvf 0 s s' → rtx tx n s' → DNs tx n R s' → Q s') : C_readSum10 s Q := by
  intro s1 e1
  have f1 : lvf 0 s s1 := by subst e1; exact lvf_pf (by omega)
  have c1 := rtx_lv hc f1
  have h1 : rgs tx n s1 j := by
    obtain ⟨a, i, b, c⟩ := h
    subst e1
    exact ⟨by rw [cpf_ne (by omega)]; exact a, i, by rw [cpf_ne (by omega)]; exact b, c⟩
  have d1 : s1.1 582 21 = ((0 : Nat) : Int) := by subst e1; exact cpf_same _ _ _ _
  obtain ⟨i, _, ski⟩ := h1.2
  refine beginSum_r (d := 0) c1 (by omega) h1 d1 (fun s2 sg o g2 d2 r9 r3 r5 f2 => ?_)
  have f02 := lvf_tr f1 f2 (Nat.le_refl _)
  have base : ∀ (i : Nat) (q : ou Unit), s2.1 582 4 = (i : Int) → adv tx n i q → ((∃ e, q = .inl e ∧ R = .inl e) ∨ ∃ j rp, q = .inr (j, ()) ∧ Gx tx n 1 poX 0 j rp ∧ ctP tx n (ctS tx n R []) 0 (none, sg, 0, none) rp) → (sg = 1 ∨ sg = -1) → SIv tx n R s (1, 0, s2) := fun i q ai ad hh hsg => Or.inr ⟨f02, rtx_lv hc f02, Or.inr (Or.inl ⟨rfl, (show (1 : Int) ≠ 0 by decide), [], (none, sg, 0, none), i, q, g2, ai, d2, by decide, ad, hh, ⟨r9, r3, hsg, fun z => absurd rfl z⟩, r5, trivial⟩)⟩
  obtain ⟨w1, w2⟩ := su_wb (W := ctS tx n R []) (Gx_4 g) rfl
  refine sumloop_r (s0 := s) ?_ hQ1 hQ2
  rcases o with ⟨w, es, a4⟩ | ⟨w, es, a4⟩
  · subst es
    obtain ⟨q3, aq3, h3⟩ := w1 w
    exact base (j + 1) q3 a4 aq3 h3 (Or.inr rfl)
  · subst es
    obtain ⟨rp3, k3, k4⟩ := w2 w
    exact base j (.inr (j, ())) a4 ⟨j, skp_s ski, Or.inl ⟨rfl, tk⟩⟩ (Or.inr ⟨j, rp3, rfl, k3, k4⟩) (Or.inl rfl)
/-- readSum of the reference from any place: the next sign may be none that is known -/
theorem readSum_q {tx : Nat → Int} {n i : Nat} {q : ou Unit} {R : ou po} {s : im_S} {Q : im_S → Prop} (hc : rtx tx n s) (h0 : s.1 582 2 = 0) (hi : s.1 582 4 = (i : Int)) (aq : adv tx n i q) (hw : (∃ e, q = .inl e ∧ R = .inl e) ∨ ∃ j, q = .inr (j, ()) ∧ Gx tx n 4 poX 0 j R) (hQ1 : ∀ e s', rbd s' e → R = .inl e → Q s') (hQ2 : ∀ s', lvf 0 s s' → rtx tx n s' → DNs tx n R s' → Q s') : C_readSum10 s Q := by
  rcases hw with ⟨e, eq, eR⟩ | ⟨j, eq, g⟩
  · subst eq
    obtain ⟨j, sk, ee, l, nt⟩ := adv_bd aq
    intro s1 e1
    have f1 : lvf 0 s s1 := by subst e1; exact lvf_pf (by omega)
    have c1 := rtx_lv hc f1
    have h1 : rgs tx n s1 j := by
      subst e1
      exact ⟨by rw [cpf_ne (by omega)]; exact h0, i, by rw [cpf_ne (by omega)]; exact hi, sk⟩
    have d1 : s1.1 582 21 = ((0 : Nat) : Int) := by subst e1; exact cpf_same _ _ _ _
    have nx : nxc tx n j ≠ 45 := fun w => nt (by unfold nxc at w; rw [if_pos l] at w; unfold tok; omega)
    refine beginSum_r (d := 0) c1 (by omega) h1 d1 (fun s2 sg o g2 d2 r9 r3 r5 f2 => ?_)
    have f02 := lvf_tr f1 f2 (Nat.le_refl _)
    rcases o with ⟨w, _⟩ | ⟨_, es, a4⟩
    · exact absurd w nx
    · subst es
      exact sumloop_r (s0 := s) (Or.inr ⟨f02, rtx_lv hc f02, Or.inr (Or.inl ⟨rfl, (show (1 : Int) ≠ 0 by decide), [], (none, 1, 0, none), j, .inl e, g2, a4, d2, by decide, ⟨j, skp_s sk, Or.inr ⟨by rw [ee], l, nt⟩⟩, Or.inl ⟨e, rfl, eR⟩, ⟨r9, r3, Or.inl rfl, fun z => absurd rfl z⟩, r5, trivial⟩)⟩) hQ1 hQ2
  · subst eq
    obtain ⟨sk, tk⟩ := adv_sk aq
    exact readSum_r hc ⟨h0, i, hi, sk⟩ tk g hQ1 hQ2
