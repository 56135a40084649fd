/-! the heap behind the constructors, read off -/
def hv_i : Value → Int
  | .int x => x.toInt
  | .long x => x.toInt
  | .ref a => (a : Int)
  | .null => -1
  | _ => 0
def hf_i (o : Option va_E) (f : Nat) : Int := match o with
  | some (.inr p) => (match p.2[f]? with
    | some v => hv_i v
    | none => 0)
  | _ => 0
def hr_i (o : Option va_E) (i : Nat) : Int := match o with
  | some (.inl (_, _, .inl g)) => (g i).toInt
  | some (.inl (_, _, .inr (.inl g))) => (g i).toInt
  | some (.inl (_, _, .inr (.inr (.inr (.inr g))))) => (match g i with
    | some j => (j : Int)
    | none => -1)
  | _ => 0
def hS_ (h : rm_H) : im_S := (fun a f => hf_i (h[a]?) f, fun a i => hr_i (h[a]?) i)
def ck_v (t : Nat) (v : Value) : Bool := match v with
  | .int _ => decide (t ≠ 1) && decide (t ≠ 3)
  | .long _ => decide (t = 1)
  | .ref _ => decide (t = 3)
  | .null => decide (t = 3)
  | _ => false
def ck_vs : List Nat → List Value → Bool
  | [], [] => true
  | t :: ts, v :: vs => ck_v t v && ck_vs ts vs
  | _, _ => false
def ck_r (t : Nat) (r : (Nat → Int32) ⊕ (Nat → Int64) ⊕ (Nat → UInt32) ⊕ (Nat → UInt64) ⊕ (Nat → Option Nat)) : Bool := match r with
  | .inl _ => decide (t ≠ 1) && decide (t < 5)
  | .inr (.inl _) => decide (t = 1)
  | .inr (.inr (.inr (.inr _))) => decide (5 ≤ t)
  | _ => false
def ck_sh (d : im_D) (c : va_E) : Bool := match d, c with
  | (0, ci, tys), .inr (cj, fs) => decide (ci = cj) && ck_vs tys fs
  | (t + 1, n, _), .inl (t', n', r) => decide (t = t') && decide (n = n') && ck_r t r
  | _, _ => false
theorem ck_v_s {t : Nat} {v : Value} (h : ck_v t v = true) : im_fv t (hv_i v) = v := by
  unfold ck_v at h
  unfold im_fv
  split at h
  · rename_i x
    simp only [Bool.and_eq_true, decide_eq_true_eq] at h
    rw [if_neg h.1, if_neg h.2]
    show Value.int (Int32.ofInt x.toInt) = _
    rw [Int32.ofInt_toInt]
  · rename_i x
    rw [if_pos (of_decide_eq_true h)]
    show Value.long (Int64.ofInt x.toInt) = _
    rw [Int64.ofInt_toInt]
  · rename_i a
    have e := of_decide_eq_true h
    rw [if_neg (by omega), if_pos e, if_neg (by show ¬ ((a : Int) < 0); omega)]
    show Value.ref ((a : Int).toNat) = _
    rw [Int.toNat_natCast]
  · have e := of_decide_eq_true h
    rw [if_neg (by omega), if_pos e, if_pos (by show (-1 : Int) < 0; decide)]
  · cases h
theorem ck_vs_s : ∀ {ts : List Nat} {vs : List Value}, ck_vs ts vs = true → ∀ f : Nat, (ts[f]? = none ∧ vs[f]? = none) ∨ ∃ t v, ts[f]? = some t ∧ vs[f]? = some v ∧ ck_v t v = true
  | [], [], _, f => Or.inl ⟨by simp, by simp⟩
  | t :: ts, v :: vs, h, f => by
    have h : (ck_v t v && ck_vs ts vs) = true := h
    simp only [Bool.and_eq_true] at h
    cases f with
    | zero => exact Or.inr ⟨t, v, rfl, rfl, h.1⟩
    | succ f =>
      have := ck_vs_s h.2 f
      simpa using this
  | [], _ :: _, h, _ => by cases h
  | _ :: _, [], h, _ => by cases h
theorem ck_sh_s {d : im_D} {c : va_E} {a : Nat} {h : rm_H} (hc : h[a]? = some c) (hk : ck_sh d c = true) : im_cell d a (hS_ h) = c := by
  unfold ck_sh at hk
  split at hk
  · rename_i ci tys cj fs
    simp only [Bool.and_eq_true, decide_eq_true_eq] at hk
    show Sum.inr (ci, tys.mapIdx (fun f t => im_fv t (hf_i (h[a]?) f))) = _
    rw [hk.1, hc]
    refine congrArg (fun z => Sum.inr (cj, z)) ?_
    apply List.ext_getElem?
    intro f
    rw [List.getElem?_mapIdx]
    rcases ck_vs_s hk.2 f with ⟨e1, e2⟩ | ⟨t, v, e1, e2, e3⟩
    · rw [e1, e2]; rfl
    · rw [e1, e2]
      show some (im_fv t (hf_i (some (Sum.inr (cj, fs))) f)) = some v
      have e : hf_i (some (Sum.inr (cj, fs))) f = hv_i v := by
        show (match fs[f]? with | some v => hv_i v | none => 0) = _
        rw [e2]
      rw [e, ck_v_s e3]
  · rename_i t n x t' n' r
    simp only [Bool.and_eq_true, decide_eq_true_eq] at hk
    obtain ⟨⟨rfl, rfl⟩, h3⟩ := hk
    show Sum.inl (t, n, im_row t (fun i => hr_i (h[a]?) i)) = _
    rw [hc]
    refine congrArg (fun z => Sum.inl (t, n, z)) ?_
    unfold ck_r at h3
    unfold im_row
    split at h3
    · rename_i g
      simp only [Bool.and_eq_true, decide_eq_true_eq] at h3
      rw [if_neg h3.1, if_pos h3.2]
      refine congrArg Sum.inl ?_
      funext i
      show Int32.ofInt (g i).toInt = g i
      exact Int32.ofInt_toInt _
    · rename_i g
      rw [if_pos (of_decide_eq_true h3)]
      refine congrArg (fun z => Sum.inr (Sum.inl z)) ?_
      funext i
      show Int64.ofInt (g i).toInt = g i
      exact Int64.ofInt_toInt _
    · rename_i g
      have h5 := of_decide_eq_true h3
      rw [if_neg (by omega), if_neg (by omega)]
      refine congrArg (fun z => Sum.inr (Sum.inr (Sum.inr (Sum.inr z)))) ?_
      funext i
      show (if (match g i with | some j => (j : Int) | none => -1) < 0 then none else some (match g i with | some j => (j : Int) | none => -1).toNat) = g i
      cases g i with
      | none => rfl
      | some j =>
        show (if (j : Int) < 0 then none else some (j : Int).toNat) = some j
        rw [if_neg (by omega), Int.toNat_natCast]
    · cases h3
  · cases hk
def ck_tO (tl : Nat × Int × Int) (x : Int) : Bool := if tl.1 = 3 then decide (0 ≤ x) && decide (gK[x.toNat]? = some tl.2.1.toNat) else decide (tl.2.1 ≤ x) && decide (x ≤ tl.2.2)
def ck_fs : List (Nat × Int × Int) → List Value → Bool
  | [], _ => true
  | t :: ts, v :: vs => ck_tO t (hv_i v) && ck_fs ts vs
  | _, _ => false
def ck_row (tl : Nat × Int × Int) (n : Nat) (c : va_E) : Bool := match c with
  | .inl (_, _, .inl _) => (decide (tl = (0, -2147483648, 2147483647))) || (List.range n).all (fun i => ck_tO tl (hr_i (some c) i))
  | .inl (_, _, .inr (.inl _)) => (decide (tl = (1, -9223372036854775808, 9223372036854775807))) || (List.range n).all (fun i => ck_tO tl (hr_i (some c) i))
  | _ => (List.range n).all (fun i => ck_tO tl (hr_i (some c) i))
def ck_cell (k : Nat) (d : im_D) (c : va_E) : Bool := ck_sh d c && (match c with
  | .inr o => ck_fs (gF.getD k []) o.2 && decide ((gE[k]?.getD (9, 0, 0)).1 = 9) && (decide (k ≠ 23) || decide (hv_i (o.2.getD 1 .null) = 0))
  | .inl _ => decide (gF.getD k [] = []) && ck_row (gE[k]?.getD (9, 0, 0)) (gS.getD k (0, 0, [])).2.1 c)
theorem ck_tO_s {tl : Nat × Int × Int} {x : Int} (h : ck_tO tl x = true) : tO tl x := by
  unfold ck_tO at h
  unfold tO
  split at h
  · rename_i e
    rw [if_pos e]
    simpa using h
  · rename_i e
    rw [if_neg e]
    simpa using h
theorem ck_fs_s : ∀ {ts : List (Nat × Int × Int)} {vs : List Value}, ck_fs ts vs = true → ∀ (f : Nat) (tl : Nat × Int × Int), ts[f]? = some tl → ∃ v, vs[f]? = some v ∧ tO tl (hv_i v)
  | [], _, _, f, tl, e => by simp at e
  | t :: ts, v :: vs, h, f, tl, e => by
    have h : (ck_tO t (hv_i v) && ck_fs ts vs) = true := h
    simp only [Bool.and_eq_true] at h
    cases f with
    | zero =>
      have e : some t = some tl := e
      cases e
      exact ⟨v, rfl, ck_tO_s h.1⟩
    | succ f =>
      obtain ⟨w, w1, w2⟩ := ck_fs_s h.2 f tl (by simpa using e)
      exact ⟨w, by simpa using w1, w2⟩
  | _ :: _, [], h, _, _, _ => by cases h
theorem ck_row_s {tl : Nat × Int × Int} {n : Nat} {c : va_E} (h : ck_row tl n c = true) (i : Nat) (hi : i < n) : tO tl (hr_i (some c) i) := by
  have all : (List.range n).all (fun i => ck_tO tl (hr_i (some c) i)) = true → tO tl (hr_i (some c) i) := fun z => ck_tO_s (List.all_eq_true.mp z i (List.mem_range.mpr hi))
  unfold ck_row at h
  split at h
  · rename_i g
    simp only [Bool.or_eq_true, decide_eq_true_eq] at h
    rcases h with h | h
    · rw [h]
      unfold tO
      rw [if_neg (by decide)]
      have := im_of32 (g i)
      unfold im_iI at this
      simp only [Bool.and_eq_true, decide_eq_true_eq] at this
      exact this
    · exact all h
  · rename_i g
    simp only [Bool.or_eq_true, decide_eq_true_eq] at h
    rcases h with h | h
    · rw [h]
      unfold tO
      rw [if_neg (by decide)]
      have := im_of64 (g i)
      unfold im_iJ at this
      simp only [Bool.and_eq_true, decide_eq_true_eq] at this
      exact this
    · exact all h
  · exact all h
