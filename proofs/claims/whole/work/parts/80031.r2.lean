theorem dgs_u {tx : Nat → Int} {n j : Nat} : ∀ {t : Nat} {v v' : Int}, dgs tx n j t v → dgs tx n j t v' → v = v'
  | 0, v, v', h, h' => by
    have h : v = 0 := h
    have h' : v' = 0 := h'
    rw [h, h']
  | t + 1, v, v', ⟨w, h, _, _, e⟩, ⟨w', h', _, _, e'⟩ => by rw [e, e', dgs_u h h']
theorem dgs_d {tx : Nat → Int} {n j : Nat} : ∀ {t : Nat} {v : Int}, dgs tx n j t v → ∀ i, i < t → j + i < n ∧ dgt (tx (j + i))
  | 0, v, h, i, hi => absurd hi (by omega)
  | t + 1, v, ⟨w, h, l, d, e⟩, i, hi => by
    by_cases c : i = t
    · rw [c]; exact ⟨l, d⟩
    · exact dgs_d h i (by omega)
theorem number_r {tx : Nat → Int} {n j : Nat} {s : im_S} {Q : Int → im_S → Prop} (hc : rtx tx n s) (h0 : s.1 582 2 = 0) (hj : s.1 582 4 = (j : Int)) (jn : j ≤ n) (hQ : ∀ z s', ((∃ t, t ≤ 6 ∧ dgs tx n j t z ∧ ¬ (j + t < n ∧ dgt (tx (j + t))) ∧ s'.1 582 4 = ((j + t : Nat) : Int) ∧ s'.1 582 2 = 0) ∨ (∃ v, dgs tx n j 6 v ∧ j + 6 < n ∧ dgt (tx (j + 6)) ∧ rbd s' (1, ((j + 6 : Nat) : Int)))) → pkf s s' → Q z s') : C_number10 s Q := by
  have n400 := hc.2.1
  refine ⟨fun q => (∃ t : Nat, q.2.1 = (t : Int) ∧ t ≤ 6 ∧ dgs tx n j t q.1 ∧ q.2.2.1 582 4 = ((j + t : Nat) : Int) ∧ j + t ≤ n ∧ q.2.2.1 582 2 = 0 ∧ pkf s q.2.2) ∨ ((∃ v, dgs tx n j 6 v ∧ j + 6 < n ∧ dgt (tx (j + 6)) ∧ rbd q.2.2 (1, ((j + 6 : Nat) : Int))) ∧ pkf s q.2.2), Or.inl ⟨0, rfl, by omega, rfl, hj, jn, h0, pkf_refl _⟩, ?_⟩
  rintro ⟨x, y, s1⟩ hI
  dsimp only at hI ⊢
  rcases hI with ⟨t, ey, t6, dg1, at1, tn, g1, f1⟩ | ⟨hb, f1⟩
  · subst ey
    have c1 := rtx_pk hc f1
    have out : ¬ (j + t < n ∧ dgt (tx (j + t))) → Q x s1 := fun nd => hQ x s1 (Or.inl ⟨t, t6, dg1, nd, at1, g1⟩) f1
    have xb := dgs_b dg1
    have pb := p10_b t6
    unfold C_number10_4
    rw [show cgf s1 582 1 = (n : Int) from c1.1, show cgf s1 582 4 = ((j + t : Nat) : Int) from at1]
    refine ⟨fun c => out (fun q => by omega), fun c _ => ?_⟩
    have l : j + t < n := by omega
    have e : cga s1 583 ((j + t : Nat) : Int) = tx (j + t) := by show s1.2 583 ((j + t : Nat) : Int).toNat = _; rw [Int.toNat_natCast]; exact c1.2.2.1 _ l
    rw [e]
    refine isDigit_r (fun d => ⟨fun z => absurd z (by decide), fun _ => good_r (fun _ => ⟨fun z => absurd z (by decide), fun _ => ?_⟩) (fun z => absurd g1 z)⟩) (fun d => ⟨fun _ => out (fun q => d q.2), fun z => absurd rfl z⟩)
    rw [w32_id (x := (t : Int) + 1) (by omega) (by omega), show cgf s1 582 4 = ((j + t : Nat) : Int) from at1, e]
    have tb := hc.2.2.2 _ l
    refine ⟨fun t7 _ s2 e2 => Or.inl ⟨t + 1, by dsimp only; omega, by omega, ⟨x, dg1, l, d, ?_⟩, ?_, by omega, ?_, ?_⟩, fun t7 => fail_r g1 (by decide) (fun s2 b2 f2 => Or.inr ⟨⟨x, ?_, ?_, ?_, ?_⟩, pkf_trans f1 f2⟩)⟩
    · have t5 : t < 6 := by omega
      have pb5 : (10 : Int) ^ t ≤ 100000 := by
        have : t = 0 ∨ t = 1 ∨ t = 2 ∨ t = 3 ∨ t = 4 ∨ t = 5 := by omega
        rcases this with q | q | q | q | q | q <;> subst q <;> decide
      dsimp only
      rw [w32_id (x := 10 * x) (by omega) (by omega), w32_id (x := 10 * x + tx (j + t)) (by omega) (by omega), w32_id (by omega) (by omega)]
      omega
    · subst e2; dsimp only; rw [cpf_same, w32s (by omega)]; rfl
    · subst e2; dsimp only; rw [cpf_ne (by omega)]; exact g1
    · subst e2; exact pkf_pf f1 (by omega) (by omega)
    · have t66 : t = 6 := by omega
      subst t66; exact dg1
    · have t66 : t = 6 := by omega
      subst t66; exact l
    · have t66 : t = 6 := by omega
      subst t66; exact d
    · have t66 : t = 6 := by omega
      subst t66; exact b2
  · obtain ⟨v, v1, v2, v3, b⟩ := hb
    have out : Q x s1 := hQ x s1 (Or.inr ⟨v, v1, v2, v3, b⟩) f1
    exact ⟨fun _ => out, fun _ _ => isDigit_r (fun _ => ⟨fun _ => out, fun _ => good_r (fun z => absurd (b.1.symm.trans z) b.2.1) (fun _ => ⟨fun _ => out, fun z => absurd rfl z⟩)⟩) (fun _ => ⟨fun _ => out, fun _ => good_r (fun z => absurd (b.1.symm.trans z) b.2.1) (fun _ => ⟨fun _ => out, fun z => absurd rfl z⟩)⟩)⟩
/-- number, given what the grammar says of it -/
theorem number_g {tx : Nat → Int} {n j : Nat} {r : ou Int} {s : im_S} {Q : Int → im_S → Prop} (hc : rtx tx n s) (h0 : s.1 582 2 = 0) (hj : s.1 582 4 = (j : Int)) (jn : j ≤ n) (hn : nmb tx n j r) (h1 : ∀ e, r = .inl e → (∀ t, ¬ adv tx n t (.inl e) ∨ True) → ∀ z s', rbd s' e → pkf s s' → Q z s') (h2 : ∀ t v q, t ≤ 6 → adv tx n (j + t) q → r = q.map id (fun z => (z.1, v)) → 0 ≤ v → v ≤ 999999 → ∀ s', s'.1 582 2 = 0 → s'.1 582 4 = ((j + t : Nat) : Int) → pkf s s' → Q v s') : C_number10 s Q := by
  refine number_r hc h0 hj jn (fun z s' o f => ?_)
  obtain ⟨t, v, t6, t1, dg1, hr⟩ := hn
  rcases hr with ⟨et, l6, d6, er⟩ | ⟨nd, q, aq, er⟩
  · subst et
    rcases o with ⟨t', t6', dg', nd', at', g'⟩ | ⟨v', v1, v2, v3, b⟩
    · exfalso
      by_cases c : t' = 6
      · subst c; exact nd' ⟨l6, d6⟩
      · exact nd' (dgs_d dg1 t' (by omega))
    · exact h1 _ er (fun _ => Or.inr trivial) z s' b f
  · rcases o with ⟨t', t6', dg', nd', at', g'⟩ | ⟨v', v1, v2, v3, b⟩
    · have e : t' = t := by
        rcases Nat.lt_trichotomy t' t with c | c | c
        · exact absurd (dgs_d dg1 t' c) nd'
        · exact c
        · exact absurd (dgs_d dg' t c) nd
      subst e
      have ev := dgs_u dg1 dg'
      subst ev
      have b := dgs_b dg1
      have p := p10_b t6
      exact h2 t' v q t6 aq er b.1 (by omega) s' g' at' f
    · exfalso
      by_cases c : t = 6
      · subst c; exact nd ⟨v2, v3⟩
      · exact nd (dgs_d v1 t (by omega))
