/-! equal on nine places -/
def e9 (p q : po) : Prop := ∀ k, k < 9 → p k = q k
theorem e9_refl (p : po) : e9 p p := fun _ _ => rfl
theorem e9_tr {p q r : po} (h : e9 p q) (h2 : e9 q r) : e9 p r := fun k hk => (h k hk).trans (h2 k hk)
theorem e9_sy {p q : po} (h : e9 p q) : e9 q p := fun k hk => (h k hk).symm
theorem cvs_e9 {p p' q q' : po} (hp : e9 p p') (hq : e9 q q') {k : Nat} (hk : k < 9) : ∀ {m : Nat}, m ≤ 9 → cvs p q k m = cvs p' q' k m
  | 0, _ => rfl
  | m + 1, h => by
    show cvs p q k m + _ = cvs p' q' k m + _
    rw [cvs_e9 hp hq hk (m := m) (by omega)]
    by_cases c : m ≤ k
    · rw [if_pos c, if_pos c, hp m (by omega), hq (k - m) (by omega)]
    · rw [if_neg c, if_neg c]
theorem poM_e9 {p p' q q' : po} (hp : e9 p p') (hq : e9 q q') : e9 (poM p q) (poM p' q') := fun k hk => cvs_e9 hp hq hk (by omega)
theorem fin9_e9 {p q : po} (h : e9 p q) (f : fin9 p) : fin9 q := fun k hk => by rw [← h k hk]; exact f k hk
theorem ovf_e9 {p p' q q' : po} (hp : e9 p p') (hq : e9 q q') (h : ovf p q) : ovf p' q' := by
  obtain ⟨i, j, a1, a2, a3, a4, a5⟩ := h
  exact ⟨i, j, a1, a2, by rw [← hp i a1]; exact a3, by rw [← hq j a2]; exact a4, a5⟩
theorem mulo_none_e9 {p p' q q' : po} (hp : e9 p p') (hq : e9 q q') (h : mulo p q none) : mulo p' q' none := by
  rcases h with ⟨_, h | h⟩ | ⟨e, _⟩
  · exact Or.inl ⟨rfl, Or.inl (ovf_e9 hp hq h)⟩
  · exact Or.inl ⟨rfl, Or.inr (fun z => h (fin9_e9 (e9_sy (poM_e9 hp hq)) z))⟩
  · cases e
theorem mulo_some_e9 {p p' q q' m : po} (hp : e9 p p') (hq : e9 q q') (h : mulo p q (some m)) : mulo p' q' (some (poM p' q')) ∧ e9 m (poM p' q') := by
  rcases h with ⟨e, _⟩ | ⟨e, h1, h2⟩
  · cases e
  · cases e
    exact ⟨Or.inr ⟨rfl, fun z => h1 (ovf_e9 (e9_sy hp) (e9_sy hq) z), fin9_e9 (poM_e9 hp hq) h2⟩, poM_e9 hp hq⟩
/-- outcomes that are alike -/
def o9 : Option po → Option po → Prop
  | none, none => True
  | some p, some q => e9 p q
  | _, _ => False
theorem mulo_o9 {p p' q q' : po} (hp : e9 p p') (hq : e9 q q') {r r' : Option po} (h : mulo p q r) (h' : mulo p' q' r') : o9 r r' := by
  cases r with
  | none =>
    have := mulo_none_e9 hp hq h
    cases r' with
    | none => trivial
    | some m =>
      rcases this with ⟨_, a⟩ | ⟨e, _⟩
      · rcases h' with ⟨e, _⟩ | ⟨_, b1, b2⟩
        · cases e
        · rcases a with a | a
          · exact absurd a b1
          · exact absurd b2 a
      · cases e
  | some m =>
    have := (mulo_some_e9 hp hq h)
    cases r' with
    | none =>
      rcases h' with ⟨_, a⟩ | ⟨e, _⟩
      · rcases this.1 with ⟨e, _⟩ | ⟨_, b1, b2⟩
        · cases e
        · rcases a with a | a
          · exact absurd a b1
          · exact absurd b2 a
      · cases e
    | some m' =>
      rcases h' with ⟨e, _⟩ | ⟨e, _, _⟩
      · cases e
      · cases e; exact this.2
/-- one times p -/
theorem poM_1 (p : po) : e9 (poM (poC 1) p) p := fun k hk => by
  show cvs (poC 1) p k 9 = p k
  rw [cvs_z (m := 1) (m' := 9) (by omega) (fun i h1 h2 => by show (if i = 0 then (1 : Int) else 0) = 0; rw [if_neg (by omega)])]
  show 0 + (if 0 ≤ k then (poC 1) 0 * p (k - 0) else 0) = p k
  rw [if_pos (by omega)]
  show 0 + (1 * p (k - 0)) = p k
  rw [Nat.sub_zero]
  omega
theorem mulo_1 {p : po} (fp : fin9 p) : mulo (poC 1) p (some (poM (poC 1) p)) := Or.inr ⟨rfl, fun ⟨i, j, a1, a2, a3, a4, a5⟩ => by
  by_cases c : i = 0
  · omega
  · exact a3 (by show (if i = 0 then (1 : Int) else 0) = 0; rw [if_neg c]), fin9_e9 (e9_sy (poM_1 p)) fp⟩
theorem sml_e9 {p q : po} (h : e9 p q) (s : sml p) : sml q := ⟨fun k hk k1 => by rw [← h k hk]; exact s.1 k hk k1, by rw [← h 0 (by omega)]; exact s.2.1, by rw [← h 0 (by omega)]; exact s.2.2⟩
/-- a product of small ones -/
theorem poM_s {p q : po} (hp : sml p) : ∀ k, k < 9 → poM p q k = p 0 * q k := fun k hk => by
  show cvs p q k 9 = _
  rw [cvs_z (m := 1) (m' := 9) (by omega) (fun i h1 h2 => hp.1 i h2 h1)]
  show 0 + (if 0 ≤ k then p 0 * q (k - 0) else 0) = _
  rw [if_pos (by omega), Nat.sub_zero]
  omega
theorem sml_m {p q : po} (hp : sml p) (hq : sml q) : sml (poM p q) ∧ mulo p q (some (poM p q)) := by
  have b : ∀ x y : Int, -1 ≤ x → x ≤ 1 → -1 ≤ y → y ≤ 1 → -1 ≤ x * y ∧ x * y ≤ 1 := fun x y h1 h2 h3 h4 => by
    have : x = -1 ∨ x = 0 ∨ x = 1 := by omega
    rcases this with q | q | q <;> subst q <;> omega
  have s : sml (poM p q) := ⟨fun k hk k1 => by rw [poM_s hp k hk, hq.1 k hk k1, Int.mul_zero], by rw [poM_s hp 0 (by omega)]; exact (b _ _ hp.2.1 hp.2.2 hq.2.1 hq.2.2).1, by rw [poM_s hp 0 (by omega)]; exact (b _ _ hp.2.1 hp.2.2 hq.2.1 hq.2.2).2⟩
  refine ⟨s, Or.inr ⟨rfl, fun ⟨i, j, a1, a2, a3, a4, a5⟩ => ?_, fun k hk => ?_⟩⟩
  · by_cases c : i = 0
    · by_cases c2 : j = 0
      · omega
      · exact a4 (hq.1 j a2 (by omega))
    · exact a3 (hp.1 i a1 (by omega))
  · by_cases c : k = 0
    · subst c; have := s.2; omega
    · rw [s.1 k hk (by omega)]; omega
/-- t products from m on; what they give -/
theorem pows_o9 {q q' : po} (hq : e9 q q') : ∀ {t : Nat} {p p' : po} {r r' : Option po}, e9 p p' → pows q t p r → pows q' t p' r' → o9 r r'
  | 0, p, p', r, r', hp, h, h' => by
    have h : r = some p := h
    have h' : r' = some p' := h'
    rw [h, h']; exact hp
  | t + 1, p, p', r, r', hp, h, h' => by
    rcases h with ⟨h, e⟩ | ⟨m, h, g⟩
    · rcases h' with ⟨h', e'⟩ | ⟨m', h', g'⟩
      · rw [e, e']; trivial
      · exact (mulo_o9 hp hq h h').elim
    · rcases h' with ⟨h', e'⟩ | ⟨m', h', g'⟩
      · exact (mulo_o9 hp hq h h').elim
      · exact pows_o9 hq (mulo_o9 hp hq h h') g g'
theorem pows_fn {q : po} (fq : fin9 q) : ∀ {t : Nat} {p r : po}, fin9 p → pows q t p (some r) → fin9 r
  | 0, p, r, fp, h => by
    have h : some r = some p := h
    cases h; exact fp
  | t + 1, p, r, fp, h => by
    rcases h with ⟨_, e⟩ | ⟨m, h, g⟩
    · cases e
    · rcases h with ⟨e, _⟩ | ⟨e, _, f⟩
      · cases e
      · cases e; exact pows_fn fq f g
/-- the reference reckons from one on, and with one or two turns more where p is small: the same -/
theorem powo_ref {p : po} {v T : Nat} {r r' : Option po} (fp : fin9 p) (hT : (sml p ∧ 2 < v ∧ T = 2 + v % 2) ∨ (¬ (sml p ∧ 2 < v) ∧ T = v)) (h : powo p v r) (h' : pows p T (poC 1) r') : o9 r r' := by
  have tT : (sml p ∧ 2 < v) → T = 2 + v % 2 := fun z => by
    rcases hT with q | q
    · exact q.2.2
    · exact absurd z q.1
  have tF : ¬ (sml p ∧ 2 < v) → T = v := fun z => by
    rcases hT with q | q
    · exact absurd ⟨q.1, q.2.1⟩ z
    · exact q.2
  have one : ∀ {t : Nat} {r' : Option po}, pows p (t + 1) (poC 1) r' → ∃ m, e9 p m ∧ pows p t m r' := fun {t r'} g => by
    rcases g with ⟨g, _⟩ | ⟨m, g, k⟩
    · exact (mulo_o9 (e9_refl _) (e9_refl _) g (mulo_1 fp)).elim
    · have := mulo_o9 (e9_refl _) (e9_refl _) (mulo_1 fp) g
      exact ⟨m, e9_tr (e9_sy (poM_1 p)) this, k⟩
  rcases h with ⟨v0, e⟩ | ⟨v0, h⟩
  · subst v0
    rw [tF (fun z => absurd z.2 (by omega))] at h'
    have h' : r' = some (poC 1) := h'
    rw [e, h']; exact e9_refl _
  · by_cases sm : sml p
    · have hh : pows p (2 - v % 2 - 1) p r := by
        rcases h with ⟨_, h⟩ | ⟨n, _⟩
        · exact h
        · exact absurd sm n
      by_cases v2 : 2 < v
      · rw [tT ⟨sm, v2⟩] at h'
        by_cases od : v % 2 = 1
        · rw [od] at h' hh
          have hh : r = some p := hh
          obtain ⟨m, em, k⟩ := one (t := 2) h'
          have sm1 := sml_e9 em sm
          rcases k with ⟨k, _⟩ | ⟨m2, k, k2⟩
          · exact (mulo_o9 (e9_refl _) (e9_refl _) k (sml_m sm1 sm).2).elim
          · have q2 := mulo_o9 (e9_refl _) (e9_refl _) (sml_m sm1 sm).2 k
            have sm2 := sml_e9 q2 (sml_m sm1 sm).1
            rcases k2 with ⟨k2, _⟩ | ⟨m3, k2, k3⟩
            · exact (mulo_o9 (e9_refl _) (e9_refl _) k2 (sml_m sm2 sm).2).elim
            · have q3 := mulo_o9 (e9_refl _) (e9_refl _) (sml_m sm2 sm).2 k2
              have k3 : r' = some m3 := k3
              rw [hh, k3]
              show e9 p m3
              refine fun k hk => ?_
              rw [← q3 k hk, poM_s sm2 k hk, ← q2 0 (by omega), poM_s sm1 0 (by omega), ← em 0 (by omega)]
              by_cases k0 : k = 0
              · subst k0
                have b := sm.2
                generalize p 0 = u at b
                have : u = -1 ∨ u = 0 ∨ u = 1 := by omega
                rcases this with q | q | q <;> subst q <;> decide
              · rw [sm.1 k hk (by omega), Int.mul_zero]
        · have ev : v % 2 = 0 := by omega
          rw [ev] at h' hh
          obtain ⟨m, em, k⟩ := one (t := 1) h'
          exact pows_o9 (e9_refl _) em hh k
      · rw [tF (fun z => v2 z.2)] at h'
        have : v = 1 ∨ v = 2 := by omega
        rcases this with q | q <;> subst q
        · obtain ⟨m, em, k⟩ := one (t := 0) h'
          exact pows_o9 (e9_refl _) em hh k
        · obtain ⟨m, em, k⟩ := one (t := 1) h'
          exact pows_o9 (e9_refl _) em hh k
    · have hh : pows p (v - 1) p r := by
        rcases h with ⟨s, _⟩ | ⟨_, h⟩
        · exact absurd s sm
        · exact h
      rw [tF (fun z => sm z.1)] at h'
      obtain ⟨t, rfl⟩ : ∃ t, v = t + 1 := ⟨v - 1, by omega⟩
      obtain ⟨m, em, k⟩ := one h'
      exact pows_o9 (e9_refl _) em hh k
