/-! the contracts of the pieces -/
/-- only the reader's own fields, slots from a on, the base and the product have changed -/
def vfr (a : Nat) (s s' : im_S) : Prop := gfr (fun c f => (c = 2 ∧ 2 ≤ f ∧ f ≤ 5) ∨ (5 + 2 * a ≤ c ∧ c ≤ 57 ∧ f = 0)) (fun c => 6 + 2 * a ≤ c ∧ c ≤ 59) s s'
theorem vfr_lk {a : Nat} {s s' : im_S} (h : lkf s s') : vfr a s s' := gfr_mono h (fun c f e => Or.inl e) (fun c e => e.elim)
theorem vfr_tr {a b : Nat} {s s' s2 : im_S} (h : vfr a s s') (h2 : vfr b s' s2) (hb : a ≤ b) : vfr a s s2 := gfr_trans h (gfr_mono h2 (fun c f e => by omega) (fun c e => by omega))
theorem ctx_vf {tx : Nat → Int} {n a : Nat} {s s' : im_S} (h : ctx tx n s) (f : vfr a s s') : ctx tx n s' := ctx_fr h f (by omega) (by omega)
theorem bdS_fr {F : Nat → Nat → Prop} {R : Nat → Prop} {s s' : im_S} {e : Int × Int} (h : bdS s e) (f : gfr F R s s') (h1 : ∀ k, ¬ F 2 k) : bdS s' e := by
  obtain ⟨a, b, c, d⟩ := h
  exact ⟨by rw [f.1 _ _ (h1 _)]; exact a, b, by rw [f.1 _ _ (h1 _)]; exact c, by rw [f.1 _ _ (h1 _)]; exact d⟩
theorem gdS_fr {F : Nat → Nat → Prop} {R : Nat → Prop} {tx : Nat → Int} {n j : Nat} {s s' : im_S} (h : gdS tx n s j) (f : gfr F R s s') (h1 : ∀ k, ¬ F 2 k) : gdS tx n s' j := by
  obtain ⟨a, b, c, d⟩ := h
  exact ⟨by rw [f.1 _ _ (h1 _)]; exact a, by rw [f.1 _ _ (h1 _)]; exact b, by rw [f.1 _ _ (h1 _)]; exact c, d⟩
def pcO (tx : Nat → Int) (n a j : Nat) (s s' : im_S) : ou po → Prop
  | .inl e => bdS s' e
  | .inr (j', P) => gdS tx n s' j' ∧ j < j' ∧ slp s' (5 + 2 * a) P ∧ fin9 P ∧ vfr a s s'
def CVp (c b : Nat) (l1 l2 : Int) (s : im_S) (Q : im_S → Prop) : Prop := (∃ e, bdS s e ∧ ∀ s', bdS s' e → Q s') ∨ ∃ (tx : Nat → Int) (n j a d : Nat), ctx tx n s ∧ gdS tx n s j ∧ l1 = (a : Int) ∧ l2 = (d : Int) ∧ d ≤ 10 ∧ a ≤ b + 2 * d ∧ ∀ s' r, Gx tx n c poX d j r → pcO tx n a j s s' r → Q s'
def CV_readBase (l1 l2 : Int) (s : im_S) (Q : im_S → Prop) : Prop := CVp 0 3 l1 l2 s Q
def CV_readPower (l1 l2 : Int) (s : im_S) (Q : im_S → Prop) : Prop := CVp 1 3 l1 l2 s Q
def CV_readTerm (l1 l2 : Int) (s : im_S) (Q : im_S → Prop) : Prop := CVp 2 2 l1 l2 s Q
def CV_readSum (l1 l2 : Int) (s : im_S) (Q : im_S → Prop) : Prop := CVp 4 1 l1 l2 s Q
theorem CVp_b {c b : Nat} {l1 l2 : Int} {s : im_S} {e : Int × Int} {Q : im_S → Prop} (h : bdS s e) (hQ : ∀ s', bdS s' e → Q s') : CVp c b l1 l2 s Q := Or.inl ⟨e, h, hQ⟩
theorem CVp_g {c b : Nat} {s : im_S} {tx : Nat → Int} {n j a d : Nat} {Q : im_S → Prop} (hc : ctx tx n s) (h : gdS tx n s j) (hd : d ≤ 10) (ha : a ≤ b + 2 * d) (hQ : ∀ s' r, Gx tx n c poX d j r → pcO tx n a j s s' r → Q s') : CVp c b (a : Int) (d : Int) s Q := Or.inr ⟨tx, n, j, a, d, hc, h, rfl, rfl, hd, ha, hQ⟩
theorem slot_v {a : Nat} {s : im_S} {Q : Nat → im_S → Prop} (h : a ≤ 25) (hQ : Q (5 + 2 * a) s) : C_slot7 (a : Int) s Q := by
  refine min_J (max_J ?_)
  rw [show (max 0 (min (a : Int) 25)).toNat = a by omega]
  exact hQ
theorem slot_b {x : Int} {s : im_S} {Q : Nat → im_S → Prop} (hQ : ∀ a, Q a s) : C_slot7 x s Q := min_J (max_J (hQ _))
theorem adv_le {tx : Nat → Int} {n i j : Nat} (h : adv tx n i (.inr (j, ()))) : i ≤ j := by
  obtain ⟨k, sk, ⟨e, _⟩ | ⟨e, _⟩⟩ := h
  · cases e; exact sk.1
  · cases e
theorem setC_bd {a : Nat} {v : Int} {s : im_S} {e : Int × Int} {Q : im_S → Prop} (ha : a ≠ 2) (h : bdS s e) (hQ : ∀ s', bdS s' e → Q s') : C_setConstant6 a v s Q := setConstant_b (fun s1 _ f1 => hQ s1 (bdS_fr h f1 (fun k => by omega)))
/-! the contracts of the text's pieces -/
def tat (s : im_S) (A : ats) : Prop := s.1 2 11 = (A.length : Int) ∧ A.length ≤ 10 ∧ ∀ (i : Nat) (p : po) (w : Int), A[i]? = some (p, w) → slp s (61 + 2 * i) p ∧ fin9 p ∧ s.2 81 i = w
theorem tat_fr {F : Nat → Nat → Prop} {R : Nat → Prop} {s s' : im_S} {A : ats} (h : tat s A) (f : gfr F R s s') (h1 : ¬ F 2 11) (h2 : ∀ i, i < 10 → ¬ F (61 + 2 * i) 0) (h3 : ∀ i, i < 10 → ¬ R (61 + 2 * i + 1)) (h4 : ¬ R 81) : tat s' A := by
  obtain ⟨a, b, c⟩ := h
  refine ⟨by rw [f.1 _ _ h1]; exact a, b, fun i p w e => ?_⟩
  have hi : i < A.length := by
    by_cases q : i < A.length
    · exact q
    · rw [List.getElem?_eq_none (by omega)] at e; cases e
  obtain ⟨c1, c2, c3⟩ := c i p w e
  exact ⟨slp_fr c1 f (h2 i (by omega)) (h3 i (by omega)), c2, by rw [f.2 _ h4]; exact c3⟩
theorem tat_vf {a : Nat} {s s' : im_S} {A : ats} (h : tat s A) (f : vfr a s s') : tat s' A := tat_fr h f (by omega) (fun i hi => by omega) (fun i hi => by omega) (by omega)
theorem tat_lk {s s' : im_S} {A : ats} (h : tat s A) (f : lkf s s') : tat s' A := tat_vf h (vfr_lk (a := 0) f)
def tcO (tx : Nat → Int) (n j : Nat) (s' : im_S) : ou ats → Prop
  | .inl e => bdS s' e
  | .inr (j', B) => gdS tx n s' j' ∧ ctx tx n s' ∧ tat s' B ∧ j < j'
def CVt (c : Nat) (l1 : Int) (s : im_S) (Q : im_S → Prop) : Prop := (∃ e, bdS s e ∧ ∀ s', bdS s' e → Q s') ∨ ∃ (tx : Nat → Int) (n j d : Nat) (A : ats), ctx tx n s ∧ gdS tx n s j ∧ tat s A ∧ l1 = (d : Int) ∧ d ≤ 10 ∧ ∀ s' r, Tx tx n c 0 d j A r → tcO tx n j s' r → Q s'
def CV_readOne (l1 : Int) (s : im_S) (Q : im_S → Prop) : Prop := CVt 1 l1 s Q
def CV_readAll (l1 : Int) (s : im_S) (Q : im_S → Prop) : Prop := CVt 2 l1 s Q
def CV_readText (l1 : Int) (s : im_S) (Q : im_S → Prop) : Prop := CVt 4 l1 s Q
def CV_readAtom (s : im_S) (Q : im_S → Prop) : Prop := (∃ e, bdS s e ∧ ∀ s', bdS s' e → Q s') ∨ ∃ (tx : Nat → Int) (n j : Nat) (A : ats), ctx tx n s ∧ gdS tx n s j ∧ tat s A ∧ ∀ s' r, tAT tx n j A r → tcO tx n j s' r → Q s'
theorem CVt_b {c : Nat} {l1 : Int} {s : im_S} {e : Int × Int} {Q : im_S → Prop} (h : bdS s e) (hQ : ∀ s', bdS s' e → Q s') : CVt c l1 s Q := Or.inl ⟨e, h, hQ⟩
theorem CVt_g {c : Nat} {s : im_S} {tx : Nat → Int} {n j d : Nat} {A : ats} {Q : im_S → Prop} (hc : ctx tx n s) (h : gdS tx n s j) (hA : tat s A) (hd : d ≤ 10) (hQ : ∀ s' r, Tx tx n c 0 d j A r → tcO tx n j s' r → Q s') : CVt c (d : Int) s Q := Or.inr ⟨tx, n, j, d, A, hc, h, hA, rfl, hd, hQ⟩
theorem emit_b {x : Int} {s : im_S} {e : Int × Int} {Q : im_S → Prop} (h : bdS s e) (hQ : ∀ s', bdS s' e → Q s') : C_emit7 x s Q := by
  refine ⟨fun _ => hQ _ h, fun _ _ s1 e1 s2 e2 => hQ _ ?_⟩
  subst e2; subst e1
  obtain ⟨a, b, c, d⟩ := h
  exact ⟨by rw [cpf_ne (by omega)]; exact a, b, by rw [cpf_ne (by omega)]; exact c, by rw [cpf_ne (by omega)]; exact d⟩
theorem emit_v {x : Int} {s : im_S} {Q : im_S → Prop} (hQ : ∀ s', gfr (fun c f => c = 2 ∧ f = 13) (fun c => c = 82) s s' → Q s') : C_emit7 x s Q := by
  refine ⟨fun _ => hQ _ (gfr_refl _ _ _), fun _ _ s1 e1 s2 e2 => hQ _ ?_⟩
  subst e2; subst e1
  exact gfr_pf (gfr_pa (gfr_refl _ _ _) rfl) ⟨rfl, rfl⟩
theorem gdS_em {tx : Nat → Int} {n j : Nat} {s s' : im_S} (h : gdS tx n s j) (f : gfr (fun c f => c = 2 ∧ f = 13) (fun c => c = 82) s s') : gdS tx n s' j := by
  obtain ⟨a, b, c, d⟩ := h
  exact ⟨by rw [f.1 _ _ (by omega)]; exact a, by rw [f.1 _ _ (by omega)]; exact b, by rw [f.1 _ _ (by omega)]; exact c, d⟩
