/-! what is asked of the heap behind the constructors -/
def ck_vO (t : Nat) (x : Int) : Bool := if t = 1 then decide (-9223372036854775808 ≤ x) && decide (x ≤ 9223372036854775807) else if t = 0 then decide (-2147483648 ≤ x) && decide (x ≤ 2147483647) else decide (x = 0) || decide (x = 1)
def ck_vf (p : Nat × Nat) (v : Value) : Bool := if p.1 = 3 then decide (hv_i v = (p.2 : Int)) else ck_vO p.1 (hv_i v)
def ck_vfs : List (Nat × Nat) → List Value → Bool
  | [], _ => true
  | t :: ts, v :: vs => ck_vf t v && ck_vfs ts vs
  | _, _ => false
def ck_vr (p : Nat × Nat) (c : va_E) : Bool := match c with
  | .inl (_, _, .inl _) => decide (p.1 = 0) || (List.range p.2).all (fun i => ck_vO p.1 (hr_i (some c) i))
  | .inl (_, _, .inr (.inl _)) => decide (p.1 = 1) || (List.range p.2).all (fun i => ck_vO p.1 (hr_i (some c) i))
  | _ => false
def ck_ref : List im_D → rm_H → List (Nat × Nat) → Bool
  | [], [], [] => true
  | d :: ds, c :: cs, v :: vs => ck_sh d c && ck_vr v c && ck_ref ds cs vs
  | _, _, _ => false
def ck_obj (c : va_E) : Bool := match c with
  | .inr o => ck_vfs vF o.2
  | _ => false
def ck_all : List Nat → List im_D → rm_H → Bool
  | k :: ks, d :: ds, c :: cs => ck_cell k d c && ck_all ks ds cs
  | [], d :: ds, c :: cs => ck_sh d c && ck_obj c && ck_ref ds cs vE
  | _, _, _ => false
theorem ck_vO_s {t : Nat} {x : Int} (h : ck_vO t x = true) : vO t x := by
  unfold ck_vO at h
  unfold vO
  split at h
  · rename_i e
    rw [if_pos e]
    simpa using h
  · rename_i e
    rw [if_neg e]
    split at h
    · rename_i e2
      rw [if_pos e2]
      simpa using h
    · rename_i e2
      rw [if_neg e2]
      simpa using h
theorem ck_vfs_s : ∀ {ts : List (Nat × Nat)} {vs : List Value}, ck_vfs ts vs = true → ∀ (f : Nat) (p : Nat × Nat), ts[f]? = some p → ∃ v, vs[f]? = some v ∧ ck_vf p v = true
  | [], _, _, f, p, e => by simp at e
  | t :: ts, v :: vs, h, f, p, e => by
    have h : (ck_vf t v && ck_vfs ts vs) = true := h
    simp only [Bool.and_eq_true] at h
    cases f with
    | zero =>
      have e : some t = some p := e
      cases e
      exact ⟨v, rfl, h.1⟩
    | succ f =>
      obtain ⟨w, w1, w2⟩ := ck_vfs_s h.2 f p (by simpa using e)
      exact ⟨w, by simpa using w1, w2⟩
  | _ :: _, [], h, _, _, _ => by cases h
theorem ck_vr_s {p : Nat × Nat} {c : va_E} (h : ck_vr p c = true) (i : Nat) (hi : i < p.2) : vO p.1 (hr_i (some c) i) := by
  have all : (List.range p.2).all (fun i => ck_vO p.1 (hr_i (some c) i)) = true → vO p.1 (hr_i (some c) i) := fun z => ck_vO_s (List.all_eq_true.mp z i (List.mem_range.mpr hi))
  unfold ck_vr at h
  split at h
  · rename_i g
    simp only [Bool.or_eq_true, decide_eq_true_eq] at h
    rcases h with h | h
    · rw [h]
      unfold vO
      rw [if_neg (by decide), if_pos rfl]
      have := im_of32 (g i)
      unfold im_iI at this
      simp only [Bool.and_eq_true, decide_eq_true_eq] at this
      exact this
    · exact all h
  · rename_i g
    simp only [Bool.or_eq_true, decide_eq_true_eq] at h
    rcases h with h | h
    · rw [h]
      unfold vO
      rw [if_pos rfl]
      have := im_of64 (g i)
      unfold im_iJ at this
      simp only [Bool.and_eq_true, decide_eq_true_eq] at this
      exact this
    · exact all h
  · cases h
theorem ck_ref_s : ∀ {ds : List im_D} {cs : rm_H} {vs : List (Nat × Nat)}, ck_ref ds cs vs = true → ds.length = cs.length ∧ (∀ (a : Nat) (d : im_D), ds[a]? = some d → ∃ c, cs[a]? = some c ∧ ck_sh d c = true) ∧ ∀ (j : Nat) (v : Nat × Nat), vs[j]? = some v → ∃ c, cs[j]? = some c ∧ ck_vr v c = true
  | [], [], [], _ => ⟨rfl, fun a d h => by simp at h, fun j v h => by simp at h⟩
  | d :: ds, c :: cs, v :: vs, h => by
    have h : (ck_sh d c && ck_vr v c && ck_ref ds cs vs) = true := h
    simp only [Bool.and_eq_true] at h
    obtain ⟨i1, i2, i3⟩ := ck_ref_s h.2
    refine ⟨by simp [i1], fun a d' e => ?_, fun j v' e => ?_⟩
    · cases a with
      | zero =>
        have e : some d = some d' := e
        cases e
        exact ⟨c, rfl, h.1.1⟩
      | succ a =>
        obtain ⟨x, x1, x2⟩ := i2 a d' (by simpa using e)
        exact ⟨x, by simpa using x1, x2⟩
    · cases j with
      | zero =>
        have e : some v = some v' := e
        cases e
        exact ⟨c, rfl, h.1.2⟩
      | succ j =>
        obtain ⟨x, x1, x2⟩ := i3 j v' (by simpa using e)
        exact ⟨x, by simpa using x1, x2⟩
  | [], [], _ :: _, h => by cases h
  | [], _ :: _, _, h => by cases h
  | _ :: _, [], _, h => by cases h
  | _ :: _, _ :: _, [], h => by cases h
theorem ck_all_s : ∀ {ks : List Nat} {ds : List im_D} {cs : rm_H}, ck_all ks ds cs = true → ds.length = cs.length ∧ (∀ (a : Nat) (d : im_D), ds[a]? = some d → ∃ c, cs[a]? = some c ∧ ck_sh d c = true) ∧ (∀ (a k : Nat), ks[a]? = some k → ∃ c d, cs[a]? = some c ∧ ck_cell k d c = true) ∧ (∃ c, cs[ks.length]? = some c ∧ ck_obj c = true) ∧ ∀ (j : Nat) (v : Nat × Nat), vE[j]? = some v → ∃ c, cs[ks.length + 1 + j]? = some c ∧ ck_vr v c = true
  | [], d :: ds, c :: cs, h => by
    have h : (ck_sh d c && ck_obj c && ck_ref ds cs vE) = true := h
    simp only [Bool.and_eq_true] at h
    obtain ⟨i1, i2, i3⟩ := ck_ref_s h.2
    refine ⟨by simp [i1], fun a d' e => ?_, fun a k e => by simp at e, ⟨c, rfl, h.1.2⟩, fun j v e => ?_⟩
    · cases a with
      | zero =>
        have e : some d = some d' := e
        cases e
        exact ⟨c, rfl, h.1.1⟩
      | succ a =>
        obtain ⟨x, x1, x2⟩ := i2 a d' (by simpa using e)
        exact ⟨x, by simpa using x1, x2⟩
    · obtain ⟨x, x1, x2⟩ := i3 j v e
      refine ⟨x, ?_, x2⟩
      rw [show ([] : List Nat).length + 1 + j = j + 1 by simp; omega]
      simpa using x1
  | k :: ks, d :: ds, c :: cs, h => by
    have h : (ck_cell k d c && ck_all ks ds cs) = true := h
    simp only [Bool.and_eq_true] at h
    obtain ⟨i1, i2, i3, ⟨o, i4, i5⟩, i6⟩ := ck_all_s h.2
    have sh : ck_sh d c = true := by
      have z := h.1
      unfold ck_cell at z
      simp only [Bool.and_eq_true] at z
      exact z.1
    refine ⟨by simp [i1], fun a d' e => ?_, fun a k' e => ?_, ⟨o, by simpa using i4, i5⟩, fun j v e => ?_⟩
    · cases a with
      | zero =>
        have e : some d = some d' := e
        cases e
        exact ⟨c, rfl, sh⟩
      | succ a =>
        obtain ⟨x, x1, x2⟩ := i2 a d' (by simpa using e)
        exact ⟨x, by simpa using x1, x2⟩
    · cases a with
      | zero =>
        have e : some k = some k' := e
        cases e
        exact ⟨c, d, rfl, h.1⟩
      | succ a =>
        obtain ⟨x, y, x1, x2⟩ := i3 a k' (by simpa using e)
        exact ⟨x, y, by simpa using x1, x2⟩
    · obtain ⟨x, x1, x2⟩ := i6 j v e
      refine ⟨x, ?_, x2⟩
      rw [show (k :: ks).length + 1 + j = (ks.length + 1 + j) + 1 by simp; omega]
      simpa using x1
  | [], [], _, h => by cases h
  | [], _ :: _, [], h => by cases h
  | _ :: _, [], _, h => by cases h
  | _ :: _, _ :: _, [], h => by cases h
set_option maxRecDepth 100000 in
theorem gK_582 : gK.length = 582 := by decide +kernel
theorem heap0_ok {h : rm_H} (hk : ck_all gK gG h = true) : im_ch gG (hS_ h) = h ∧ tI (hS_ h) ∧ vI (hS_ h) ∧ ∀ b : Nat, gK[b]? = some 23 → (hS_ h).1 b 1 = 0 := by
  obtain ⟨c1, c2, c3, ⟨o, c4, c5⟩, c6⟩ := ck_all_s hk
  rw [gK_582] at c4 c6
  refine ⟨?_, ⟨fun a k ha f tl hf => ?_, fun a k ha tl he i hi => ?_⟩, ⟨fun f t c hf => ?_, fun c t n hc he i hi => ?_⟩, fun b hb => ?_⟩
  · apply List.ext_getElem?
    intro b
    rw [im_ch_get]
    cases e : gG[b]? with
    | none =>
      have : gG.length ≤ b := List.getElem?_eq_none_iff.mp e
      have z : h[b]? = none := List.getElem?_eq_none_iff.mpr (by omega)
      rw [z]
      rfl
    | some d =>
      obtain ⟨c, x1, x2⟩ := c2 b d e
      show some (im_cell d b (hS_ h)) = _
      rw [x1, ck_sh_s x1 x2]
  · obtain ⟨c, d, x1, x2⟩ := c3 a k ha
    unfold ck_cell at x2
    simp only [Bool.and_eq_true] at x2
    cases c with
    | inr p =>
      have x3 := x2.2
      simp only [Bool.and_eq_true] at x3
      obtain ⟨v, v1, v2⟩ := ck_fs_s x3.1.1 f tl hf
      have e : (hS_ h).1 a f = hv_i v := by
        show hf_i (h[a]?) f = _
        rw [x1]
        show (match p.2[f]? with | some v => hv_i v | none => 0) = _
        rw [v1]
      rw [e]
      exact v2
    | inl r =>
      have x3 := x2.2
      simp only [Bool.and_eq_true, decide_eq_true_eq] at x3
      rw [x3.1] at hf
      simp at hf
  · obtain ⟨c, d, x1, x2⟩ := c3 a k ha
    unfold ck_cell at x2
    simp only [Bool.and_eq_true] at x2
    cases c with
    | inr p =>
      have x3 := x2.2
      simp only [Bool.and_eq_true, decide_eq_true_eq] at x3
      rw [he] at x3
      exact Or.inl x3.1.2
    | inl r =>
      have x3 := x2.2
      simp only [Bool.and_eq_true, decide_eq_true_eq] at x3
      rw [he] at x3
      refine Or.inr ?_
      have e : (hS_ h).2 a i = hr_i (some (.inl r)) i := by
        show hr_i (h[a]?) i = _
        rw [x1]
      rw [e]
      exact ck_row_s x3.2 i hi
  · cases o with
    | inr p =>
      obtain ⟨v, v1, v2⟩ := ck_vfs_s c5 f (t, c) hf
      have e : (hS_ h).1 582 f = hv_i v := by
        show hf_i (h[582]?) f = _
        rw [c4]
        show (match p.2[f]? with | some v => hv_i v | none => 0) = _
        rw [v1]
      rw [e]
      unfold ck_vf at v2
      dsimp only at v2
      split at v2
      · rename_i q
        rw [if_pos q]
        exact of_decide_eq_true v2
      · rename_i q
        rw [if_neg q]
        exact ck_vO_s v2
    | inl r => cases c5
  · obtain ⟨x, x1, x2⟩ := c6 (c - 583) (t, n) he
    have e : (hS_ h).2 c i = hr_i (some x) i := by
      show hr_i (h[c]?) i = _
      rw [← x1, show 582 + 1 + (c - 583) = c by omega]
    rw [e]
    exact ck_vr_s x2 i hi
  · obtain ⟨c, d, x1, x2⟩ := c3 b 23 hb
    unfold ck_cell at x2
    simp only [Bool.and_eq_true] at x2
    cases c with
    | inr p =>
      have x3 := x2.2
      simp only [Bool.and_eq_true, Bool.or_eq_true, decide_eq_true_eq] at x3
      have z := x3.2.resolve_left (fun q => q rfl)
      obtain ⟨v, v1, v2⟩ := ck_fs_s x3.1.1 1 (2, 0, 1) (by decide +kernel)
      show hf_i (h[b]?) 1 = 0
      rw [x1]
      show (match p.2[1]? with | some v => hv_i v | none => 0) = 0
      rw [v1]
      have g : p.2.getD 1 .null = v := by rw [List.getD_eq_getElem?_getD, v1]; rfl
      rw [g] at z
      exact z
    | inl r =>
      have x3 := x2.2
      simp only [Bool.and_eq_true, decide_eq_true_eq] at x3
      exact absurd x3.1 (by decide +kernel)
