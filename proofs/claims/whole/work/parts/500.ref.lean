/-! THE REFERENCE'S CELLS: shapes, kinds, bounds, by program -/
def hK (a : Nat) : Option Nat := if 582 ≤ a ∧ a < 619 then some (a - 582) else none
def hS9 : List im_D := [(0, 10, [3, 0, 0, 0, 0, 2, 0, 3, 3, 3, 0, 3, 0, 3, 3, 3, 3, 3, 3, 3, 3, 0, 3, 3, 0, 0, 3, 3, 0, 0, 3, 3, 0, 0, 0, 3, 0, 3, 3, 3, 3, 0, 3, 3, 3, 3, 3, 3, 3, 3, 3, 3, 0, 3, 3]), (1, 400, []), (2, 90, []), (1, 10, []), (1, 500, []), (1, 500, []), (5, 400, []), (2, 108, []), (2, 108, []), (2, 108, []), (2, 9, []), (1, 12, []), (1, 12, []), (1, 12, []), (2, 9, []), (1, 700000, []), (1, 1200, []), (1, 10800, []), (1, 12, []), (1, 20000, []), (1, 200, []), (1, 90, []), (1, 90, []), (1, 90, []), (1, 2000, []), (1, 90, []), (2, 90, []), (2, 90, []), (1, 90, []), (1, 90, []), (1, 90, []), (1, 90, []), (1, 90, []), (1, 800, []), (1, 800, []), (1, 2000, []), (5, 200, [])]
def hF9 : List (List (Nat × Int × Int)) := [[(3, 1, 0), (0, 0, 400), (0, 0, 3), (0, -2, 400), (0, 0, 400), (2, 0, 1), (0, 0, 10), (3, 2, 0), (3, 3, 0), (3, 4, 0), (0, 0, 500), (3, 5, 0), (0, 0, 500), (3, 6, 0), (3, 7, 0), (3, 8, 0), (3, 9, 0), (3, 10, 0), (3, 11, 0), (3, 12, 0), (3, 13, 0), (0, 0, 10), (3, 14, 0), (3, 15, 0), (0, -2147483648, 2147483647), (0, -2147483648, 2147483647), (3, 16, 0), (3, 17, 0), (0, -2147483648, 2147483647), (0, -2147483648, 2147483647), (3, 18, 0), (3, 19, 0), (0, -2147483648, 2147483647), (0, -2147483648, 2147483647), (0, -2147483648, 2147483647), (3, 20, 0), (0, -2147483648, 2147483647), (3, 21, 0), (3, 22, 0), (3, 23, 0), (3, 24, 0), (0, 0, 90), (3, 25, 0), (3, 26, 0), (3, 27, 0), (3, 28, 0), (3, 29, 0), (3, 30, 0), (3, 31, 0), (3, 32, 0), (3, 33, 0), (3, 34, 0), (0, -2147483648, 2147483647), (3, 35, 0), (3, 36, 0)], [], [], [], [], [], [], [], [], [], [], [], [], [], [], [], [], [], [], [], [], [], [], [], [], [], [], [], [], [], [], [], [], [], [], [], []]
def hE9 : List (Nat × Int × Int) := [(9, 0, 0), (0, 0, 126), (1, -9223372036854775808, 9223372036854775807), (0, 0, 2), (0, -4, 9), (0, -4, -1), (0, 0, 1), (1, -9223372036854775808, 9223372036854775807), (1, -9223372036854775808, 9223372036854775807), (1, -9223372036854775808, 9223372036854775807), (1, -9223372036854775808, 9223372036854775807), (0, -1, 1), (0, -1, 400), (0, -1, 400), (1, -9223372036854775808, 9223372036854775807), (0, -2147483648, 2147483647), (0, -2147483648, 2147483647), (0, -2147483648, 2147483647), (0, -2147483648, 2147483647), (0, -2147483648, 2147483647), (0, -2147483648, 2147483647), (0, -2147483648, 2147483647), (0, -2147483648, 2147483647), (0, -2147483648, 2147483647), (0, -2147483648, 2147483647), (0, 0, 199), (1, -9223372036854775808, 9223372036854775807), (1, -9223372036854775808, 9223372036854775807), (0, -2147483648, 2147483647), (0, -2147483648, 2147483647), (0, -2147483648, 2147483647), (0, -2147483648, 2147483647), (0, 0, 89), (0, -2147483648, 2147483647), (0, -2147483648, 2147483647), (0, -2147483648, 2147483647), (0, 0, 1)]
/-! THE SAME FOR THE REFERENCE -/
def uO (tl : Nat × Int × Int) (x : Int) : Prop := if tl.1 = 3 then 0 ≤ x ∧ hK (x.toNat) = some tl.2.1.toNat else tl.2.1 ≤ x ∧ x ≤ tl.2.2
/-- all cells of the class hold what their kinds allow -/
def uI (s : im_S) : Prop := (∀ a k, hK (a) = some k → ∀ f tl, (hF9.getD k [])[f]? = some tl → uO tl (s.1 a f)) ∧ ∀ a k, hK (a) = some k → ∀ tl, hE9[k]? = some tl → ∀ i : Nat, i < (hS9.getD k (0, 0, [])).2.1 → tl.1 = 9 ∨ uO tl (s.2 a i)
/-- only these fields of these kinds have changed, and nothing that isn't the class's -/
def ur (l : List (Nat × Nat)) (s0 s : im_S) : Prop := (∀ a k, hK a = some k → ∀ f, (k, f) ∉ l → s.1 a f = s0.1 a f) ∧ (∀ a, a < 582 → s.1 a = s0.1 a ∧ s.2 a = s0.2 a) ∧ ∀ a k, hK a = some k → (k, 1000) ∉ l → s.2 a = s0.2 a
theorem ur_refl (l : List (Nat × Nat)) (s : im_S) : ur l s s := ⟨fun _ _ _ _ _ => rfl, fun _ _ => ⟨rfl, rfl⟩, fun _ _ _ _ => rfl⟩
theorem ur_trans {l l2 : List (Nat × Nat)} {s0 s s2 : im_S} (h : ur l s0 s) (h2 : ur l2 s s2) (hl : l2.all (fun p => l.contains p) = true) : ur l s0 s2 := by
  have hin : ∀ p, p ∈ l2 → p ∈ l := fun p hp => by simpa using List.all_eq_true.mp hl p hp
  refine ⟨fun a k ha f hf => ?_, fun a ha => ⟨(h2.2.1 a ha).1.trans (h.2.1 a ha).1, (h2.2.1 a ha).2.trans (h.2.1 a ha).2⟩, fun a k ha hn => ?_⟩
  · rw [h2.1 a k ha f (fun z => hf (hin _ z)), h.1 a k ha f hf]
  · rw [h2.2.2 a k ha (fun z => hn (hin _ z)), h.2.2 a k ha hn]
theorem hK_ge {a k : Nat} (h : hK a = some k) : 582 ≤ a ∧ a < 619 ∧ k = a - 582 := by
  unfold hK at h
  split at h
  · rename_i e
    exact ⟨e.1, e.2, (Option.some.inj h).symm⟩
  · exact absurd h (by simp)
theorem uO_n {e : Nat} {lo hi x : Int} (h : e ≠ 3) : uO (e, lo, hi) x ↔ lo ≤ x ∧ x ≤ hi := by
  unfold uO
  rw [if_neg h]
set_option maxRecDepth 100000 in
theorem hG_all : ∀ i : Nat, i < 37 → gG[582 + i]? = hS9[i]? := by decide +kernel
theorem hG_at {a k : Nat} (h : hK a = some k) : gG[a]? = hS9[k]? := by
  obtain ⟨h1, h2, h3⟩ := hK_ge h
  have z := hG_all (a - 582) (by omega)
  have e : 582 + (a - 582) = a := by omega
  rw [e, ← h3] at z
  exact z
theorem ur_put {l : List (Nat × Nat)} {s0 s s' : im_S} {a k f : Nat} (h : ur l s0 s) (hl : l.contains (k, f) = true) (ha : hK a = some k) (g : ∀ b j, ¬ (b = a ∧ j = f) → s'.1 b j = s.1 b j) (r : s'.2 = s.2) : ur l s0 s' := by
  refine ⟨fun b k2 hb j hj => ?_, fun b hb => ?_, fun b k2 hb hn => by rw [r]; exact h.2.2 b k2 hb hn⟩
  · rw [g b j (fun z => by
      obtain ⟨rfl, rfl⟩ := z
      rw [ha] at hb
      cases hb
      exact hj (by simpa using hl)), h.1 b k2 hb j hj]
  · refine ⟨?_, by rw [r]; exact (h.2.1 b hb).2⟩
    funext j
    rw [g b j (fun z => by have := hK_ge ha; omega), (h.2.1 b hb).1]
theorem ur_row {l : List (Nat × Nat)} {s0 s s' : im_S} {a k i : Nat} {x : Int} (h : ur l s0 s) (hl : l.contains (k, 1000) = true) (ha : hK a = some k) (r : s'.1 = s.1) (c : s'.2 = im_up s.2 a i x) : ur l s0 s' := by
  have ne : ∀ b, b ≠ a → s'.2 b = s.2 b := fun b hb => by
    rw [c]
    funext j
    exact im_up_ne (fun z => hb z.1)
  refine ⟨fun b k2 hb j hj => by rw [r]; exact h.1 b k2 hb j hj, fun b hb => ⟨by rw [r]; exact (h.2.1 b hb).1, ?_⟩, fun b k2 hb hn => ?_⟩
  · rw [ne b (fun e => by have := (hK_ge ha).1; omega)]
    exact (h.2.1 b hb).2
  · rw [ne b (fun e => by
      subst e
      rw [ha] at hb
      cases hb
      exact hn (by simpa using hl))]
    exact h.2.2 b k2 hb hn
-- the tables
def ufI (k f ci : Nat) : Option (Int × Int) := match hS9[k]?, (hF9.getD k [])[f]? with
  | some (0, ci', tys), some (t, lo, hi) => if ci' = ci ∧ tys[f]? = some t ∧ t ≠ 1 ∧ t ≠ 3 ∧ -2147483648 ≤ lo ∧ hi ≤ 2147483647 then some (lo, hi) else none
  | _, _ => none
def ufJ (k f ci : Nat) : Option (Int × Int) := match hS9[k]?, (hF9.getD k [])[f]? with
  | some (0, ci', tys), some (t, lo, hi) => if ci' = ci ∧ tys[f]? = some 1 ∧ t = 1 ∧ -9223372036854775808 ≤ lo ∧ hi ≤ 9223372036854775807 then some (lo, hi) else none
  | _, _ => none
def ufR (k f ci : Nat) : Option Nat := match hS9[k]?, (hF9.getD k [])[f]? with
  | some (0, ci', tys), some (t, lo, _) => if ci' = ci ∧ tys[f]? = some 3 ∧ t = 3 then some lo.toNat else none
  | _, _ => none
/-- a row's type, length and bounds -/
def ueR (k : Nat) : Option (Nat × Nat × Nat × Int × Int) := match hS9[k]?, hE9[k]? with
  | some (t + 1, n, _), some (e, lo, hi) => if e ≠ 9 ∧ n < 2147483648 then some (t, n, e, lo, hi) else none
  | _, _ => none
theorem ufI_ok {k f ci : Nat} {lo hi : Int} (h : ufI k f ci = some (lo, hi)) : ∃ tys t, hS9[k]? = some (0, ci, tys) ∧ tys[f]? = some t ∧ (hF9.getD k [])[f]? = some (t, lo, hi) ∧ t ≠ 1 ∧ t ≠ 3 ∧ -2147483648 ≤ lo ∧ hi ≤ 2147483647 := by
  unfold ufI at h
  split at h
  · rename_i ci' tys t lo' hi' h1 h2
    split at h
    · rename_i hc
      cases h
      obtain ⟨rfl, c2, c3, c4, c5, c6⟩ := hc
      exact ⟨tys, t, h1, c2, h2, c3, c4, c5, c6⟩
    · cases h
  · cases h
theorem ufJ_ok {k f ci : Nat} {lo hi : Int} (h : ufJ k f ci = some (lo, hi)) : ∃ tys, hS9[k]? = some (0, ci, tys) ∧ tys[f]? = some 1 ∧ (hF9.getD k [])[f]? = some (1, lo, hi) ∧ -9223372036854775808 ≤ lo ∧ hi ≤ 9223372036854775807 := by
  unfold ufJ at h
  split at h
  · rename_i ci' tys t lo' hi' h1 h2
    split at h
    · rename_i hc
      cases h
      obtain ⟨rfl, c2, rfl, c5, c6⟩ := hc
      exact ⟨tys, h1, c2, h2, c5, c6⟩
    · cases h
  · cases h
theorem ufR_ok {k f ci k2 : Nat} (h : ufR k f ci = some k2) : ∃ tys lo hi, hS9[k]? = some (0, ci, tys) ∧ tys[f]? = some 3 ∧ (hF9.getD k [])[f]? = some (3, lo, hi) ∧ lo.toNat = k2 := by
  unfold ufR at h
  split at h
  · rename_i ci' tys t lo' hi' h1 h2
    split at h
    · rename_i hc
      cases h
      obtain ⟨rfl, c2, rfl⟩ := hc
      exact ⟨tys, lo', hi', h1, c2, h2, rfl⟩
    · cases h
  · cases h
theorem ueR_ok {k t n e : Nat} {lo hi : Int} (h : ueR k = some (t, n, e, lo, hi)) : ∃ z, hS9[k]? = some (t + 1, n, z) ∧ hE9[k]? = some (e, lo, hi) ∧ e ≠ 9 ∧ n < 2147483648 := by
  unfold ueR at h
  split at h
  · rename_i t' n' z e' lo' hi' h1 h2
    split at h
    · rename_i hc
      cases h
      exact ⟨z, h1, h2, hc.1, hc.2⟩
    · cases h
  · cases h
section IRT
variable {P : Nat → rm_M} {L : Nat} {ys : Nat → Int32} {d : Nat} {M : rm_M} {pc pc' : Nat} {lv lv' : List (Nat × im_V)} {st : List im_V} {s : im_S} {Q : im_Re → Prop}
theorem ir_ugi {idx ci f w a k : Nat} {lo hi : Int} (hf : rm_find M.1 pc = some (.getfield idx, 3)) (hl : rm_lk M.2.1 idx = some (0, ci, f, w)) (hp : pc + 3 = pc') (hk : ufI k f ci = some (lo, hi)) (ha : hK (a) = some k) (hT : uI s) (h : ∀ z, s.1 a f = z → lo ≤ z → z ≤ hi → ir gG P L ys d M (pc', lv, (0, z) :: st, s) Q) : ir gG P L ys d M (pc, lv, (2, (a : Int)) :: st, s) Q := by
  obtain ⟨tys, t, h1, h2, h3, h4, h5, h6, h7⟩ := ufI_ok hk
  have z := hT.1 a k ha f _ h3
  unfold uO at z
  rw [if_neg h5] at z
  dsimp only at z
  exact ir_getI hf hl hp (by rw [hG_at ha]; exact h1) h2 h4 h5 rfl (by omega) (by omega) (h _ rfl z.1 z.2)
theorem ir_ugj {idx ci f w a k : Nat} {lo hi : Int} (hf : rm_find M.1 pc = some (.getfield idx, 3)) (hl : rm_lk M.2.1 idx = some (0, ci, f, w)) (hp : pc + 3 = pc') (hk : ufJ k f ci = some (lo, hi)) (ha : hK (a) = some k) (hT : uI s) (h : ∀ z, s.1 a f = z → lo ≤ z → z ≤ hi → ir gG P L ys d M (pc', lv, (1, z) :: st, s) Q) : ir gG P L ys d M (pc, lv, (2, (a : Int)) :: st, s) Q := by
  obtain ⟨tys, h1, h2, h3, h6, h7⟩ := ufJ_ok hk
  have z := hT.1 a k ha f _ h3
  have z := (uO_n (by decide)).mp z
  exact ir_getJ hf hl hp (by rw [hG_at ha]; exact h1) h2 rfl (by omega) (by omega) (h _ rfl z.1 z.2)
theorem ir_ugr {idx ci f w a k k2 : Nat} (hf : rm_find M.1 pc = some (.getfield idx, 3)) (hl : rm_lk M.2.1 idx = some (0, ci, f, w)) (hp : pc + 3 = pc') (hk : ufR k f ci = some k2) (ha : hK (a) = some k) (hT : uI s) (h : ∀ b : Nat, s.1 a f = (b : Int) → hK (b) = some k2 → ir gG P L ys d M (pc', lv, (2, (b : Int)) :: st, s) Q) : ir gG P L ys d M (pc, lv, (2, (a : Int)) :: st, s) Q := by
  obtain ⟨tys, lo, hi, h1, h2, h3, rfl⟩ := ufR_ok hk
  have z := hT.1 a k ha f _ h3
  unfold uO at z
  rw [if_pos rfl] at z
  obtain ⟨n, hn⟩ := Int.eq_ofNat_of_zero_le z.1
  exact ir_getR hf hl hp (by rw [hG_at ha]; exact h1) h2 hn (h n hn (by have z2 := z.2; rw [hn] at z2; exact z2))
theorem uI_put {a k f t : Nat} {lo hi x : Int} (hT : uI s) (ha : hK (a) = some k) (h3 : (hF9.getD k [])[f]? = some (t, lo, hi)) (hx : uO (t, lo, hi) x) : uI (im_up s.1 a f x, s.2) := by
  refine ⟨fun b k2 hb j tl hj => ?_, hT.2⟩
  by_cases e : b = a ∧ j = f
  · obtain ⟨rfl, rfl⟩ := e
    rw [ha] at hb
    cases hb
    rw [h3] at hj
    cases hj
    show uO _ (im_up s.1 b j x b j)
    rw [im_up_same]
    exact hx
  · show uO _ (im_up s.1 a f x b j)
    rw [im_up_ne e]
    exact hT.1 b k2 hb j tl hj
/-- an int (or a boolean) into a field -/
theorem ir_upi {idx ci f a k w : Nat} {lo hi x : Int} (hf : rm_find M.1 pc = some (.putfield idx, 3)) (hl : rm_lk M.2.1 idx = some (0, ci, f, w)) (hp : pc + 3 = pc') (hk : ufI k f ci = some (lo, hi)) (hw : rm_fin ci f = false) (ha : hK (a) = some k) (hT : uI s) (hfit : rm_fit (rm_ft ci f) (im_cv (0, x)) = true) (x1 : lo ≤ x) (x2 : x ≤ hi) (h : ∀ s', uI s' → s'.1 a f = x → (∀ b j, ¬ (b = a ∧ j = f) → s'.1 b j = s.1 b j) → s'.2 = s.2 → ir gG P L ys d M (pc', lv, st, s') Q) : ir gG P L ys d M (pc, lv, (0, x) :: (2, (a : Int)) :: st, s) Q := by
  obtain ⟨tys, t, h1, h2, h3, h4, h5, h6, h7⟩ := ufI_ok hk
  refine ir_put (v := (0, x)) hf hl hp (by rw [hG_at ha]; exact h1) h2 hfit hw ?_ (h _ (uI_put hT ha h3 ?_) (im_up_same _ _ _ _) (fun b j e => im_up_ne e) rfl)
  · unfold im_tg
    rw [if_neg h4, if_neg h5]
    rfl
  · unfold uO
    rw [if_neg h5]
    exact ⟨x1, x2⟩
theorem ir_upj {idx ci f a k w : Nat} {lo hi x : Int} (hf : rm_find M.1 pc = some (.putfield idx, 3)) (hl : rm_lk M.2.1 idx = some (0, ci, f, w)) (hp : pc + 3 = pc') (hk : ufJ k f ci = some (lo, hi)) (hw : rm_fin ci f = false) (ha : hK (a) = some k) (hT : uI s) (hfit : rm_fit (rm_ft ci f) (im_cv (1, x)) = true) (x1 : lo ≤ x) (x2 : x ≤ hi) (h : ∀ s', uI s' → s'.1 a f = x → (∀ b j, ¬ (b = a ∧ j = f) → s'.1 b j = s.1 b j) → s'.2 = s.2 → ir gG P L ys d M (pc', lv, st, s') Q) : ir gG P L ys d M (pc, lv, (1, x) :: (2, (a : Int)) :: st, s) Q := by
  obtain ⟨tys, h1, h2, h3, h6, h7⟩ := ufJ_ok hk
  refine ir_put (v := (1, x)) hf hl hp (by rw [hG_at ha]; exact h1) h2 hfit hw rfl (h _ (uI_put hT ha h3 ?_) (im_up_same _ _ _ _) (fun b j e => im_up_ne e) rfl)
  exact (uO_n (by decide)).mpr ⟨x1, x2⟩
theorem ir_upr {idx ci f a b k k2 w : Nat} (hf : rm_find M.1 pc = some (.putfield idx, 3)) (hl : rm_lk M.2.1 idx = some (0, ci, f, w)) (hp : pc + 3 = pc') (hk : ufR k f ci = some k2) (hw : rm_fin ci f = false) (ha : hK (a) = some k) (hT : uI s) (hfit : rm_fit (rm_ft ci f) (im_cv (2, (b : Int))) = true) (hb : hK (b) = some k2) (h : ∀ s', uI s' → s'.1 a f = (b : Int) → (∀ b j, ¬ (b = a ∧ j = f) → s'.1 b j = s.1 b j) → s'.2 = s.2 → ir gG P L ys d M (pc', lv, st, s') Q) : ir gG P L ys d M (pc, lv, (2, (b : Int)) :: (2, (a : Int)) :: st, s) Q := by
  obtain ⟨tys, lo, hi, h1, h2, h3, rfl⟩ := ufR_ok hk
  refine ir_put (v := (2, (b : Int))) hf hl hp (by rw [hG_at ha]; exact h1) h2 hfit hw rfl (h _ (uI_put hT ha h3 ?_) (im_up_same _ _ _ _) (fun b j e => im_up_ne e) rfl)
  unfold uO
  rw [if_pos rfl]
  exact ⟨Int.natCast_nonneg b, hb⟩
theorem uI_row {a k t n e : Nat} {lo hi : Int} (hT : uI s) (ha : hK (a) = some k) (hk : ueR k = some (t, n, e, lo, hi)) {i : Int} (i1 : 0 ≤ i) (i2 : i < n) : uO (e, lo, hi) (s.2 a i.toNat) := by
  obtain ⟨z, h1, h2, h3, h4⟩ := ueR_ok hk
  rcases hT.2 a k ha _ h2 i.toNat (by
    rw [List.getD_eq_getElem?_getD, h1]
    show i.toNat < n
    omega) with h | h
  · exact absurd h h3
  · exact h
/-- an int out of a row -/
theorem ir_uia {a k n : Nat} {lo hi i : Int} (hf : rm_find M.1 pc = some (.iaload, 1)) (hp : pc + 1 = pc') (hk : ueR k = some (0, n, 0, lo, hi)) (hb : decide (-2147483648 ≤ lo ∧ hi ≤ 2147483647) = true) (ha : hK (a) = some k) (hT : uI s) (i1 : 0 ≤ i) (i2 : i < n) (h : ∀ z, s.2 a i.toNat = z → lo ≤ z → z ≤ hi → ir gG P L ys d M (pc', lv, (0, z) :: st, s) Q) : ir gG P L ys d M (pc, lv, (0, i) :: (2, (a : Int)) :: st, s) Q := by
  have z := uI_row hT ha hk i1 i2
  have z := (uO_n (by decide)).mp z
  have hb := of_decide_eq_true hb
  obtain ⟨zz, h1, -⟩ := ueR_ok hk
  exact ir_iald hf hp (by rw [hG_at ha]; exact h1) i1 i2 rfl (by omega) (by omega) (h _ rfl z.1 z.2)
theorem ir_ula {a k n : Nat} {lo hi i : Int} (hf : rm_find M.1 pc = some (.laload, 1)) (hp : pc + 1 = pc') (hk : ueR k = some (1, n, 1, lo, hi)) (hb : decide (-9223372036854775808 ≤ lo ∧ hi ≤ 9223372036854775807) = true) (ha : hK (a) = some k) (hT : uI s) (i1 : 0 ≤ i) (i2 : i < n) (h : ∀ z, s.2 a i.toNat = z → lo ≤ z → z ≤ hi → ir gG P L ys d M (pc', lv, (1, z) :: st, s) Q) : ir gG P L ys d M (pc, lv, (0, i) :: (2, (a : Int)) :: st, s) Q := by
  have z := uI_row hT ha hk i1 i2
  have z := (uO_n (by decide)).mp z
  have hb := of_decide_eq_true hb
  obtain ⟨zz, h1, -⟩ := ueR_ok hk
  exact ir_lald hf hp (by rw [hG_at ha]; exact h1) i1 i2 rfl (by omega) (by omega) (h _ rfl z.1 z.2)
theorem ir_uca {a k n : Nat} {lo hi i : Int} (hf : rm_find M.1 pc = some (.caload, 1)) (hp : pc + 1 = pc') (hk : ueR k = some (2, n, 0, lo, hi)) (hb : decide (-2147483648 ≤ lo ∧ hi ≤ 2147483647) = true) (ha : hK (a) = some k) (hT : uI s) (i1 : 0 ≤ i) (i2 : i < n) (h : ∀ z, s.2 a i.toNat = z → lo ≤ z → z ≤ hi → ir gG P L ys d M (pc', lv, (0, z) :: st, s) Q) : ir gG P L ys d M (pc, lv, (0, i) :: (2, (a : Int)) :: st, s) Q := by
  have z := uI_row hT ha hk i1 i2
  have z := (uO_n (by decide)).mp z
  have hb := of_decide_eq_true hb
  obtain ⟨zz, h1, -⟩ := ueR_ok hk
  exact ir_cald hf hp (by rw [hG_at ha]; exact h1) i1 i2 rfl (by omega) (by omega) (h _ rfl z.1 z.2)
theorem ir_uba {a k t n : Nat} {lo hi i : Int} (hf : rm_find M.1 pc = some (.baload, 1)) (hp : pc + 1 = pc') (hk : ueR k = some (t, n, 0, lo, hi)) (ht : t = 3 ∨ t = 4) (hb : decide (-2147483648 ≤ lo ∧ hi ≤ 2147483647) = true) (ha : hK (a) = some k) (hT : uI s) (i1 : 0 ≤ i) (i2 : i < n) (h : ∀ z, s.2 a i.toNat = z → lo ≤ z → z ≤ hi → ir gG P L ys d M (pc', lv, (0, z) :: st, s) Q) : ir gG P L ys d M (pc, lv, (0, i) :: (2, (a : Int)) :: st, s) Q := by
  have z := uI_row hT ha hk i1 i2
  have z := (uO_n (by decide)).mp z
  have hb := of_decide_eq_true hb
  obtain ⟨zz, h1, -⟩ := ueR_ok hk
  exact ir_bald hf hp (by rw [hG_at ha]; exact h1) (by omega) i1 i2 rfl (by omega) (by omega) (h _ rfl z.1 z.2)
theorem ir_uaa {a k t n k2 : Nat} {hi i : Int} (hf : rm_find M.1 pc = some (.aaload, 1)) (hp : pc + 1 = pc') (hk : ueR k = some (t, n, 3, (k2 : Int), hi)) (ht : 5 ≤ t ∧ t < 8) (ha : hK (a) = some k) (hT : uI s) (i1 : 0 ≤ i) (i2 : i < n) (h : ∀ b : Nat, hK (b) = some k2 → ir gG P L ys d M (pc', lv, (2, (b : Int)) :: st, s) Q) : ir gG P L ys d M (pc, lv, (0, i) :: (2, (a : Int)) :: st, s) Q := by
  have z := uI_row hT ha hk i1 i2
  unfold uO at z
  rw [if_pos rfl] at z
  obtain ⟨m, hm⟩ := Int.eq_ofNat_of_zero_le z.1
  obtain ⟨zz, h1, -⟩ := ueR_ok hk
  exact ir_aald hf hp (by rw [hG_at ha]; exact h1) ht i1 i2 hm (h m (by have z2 := z.2; rw [hm] at z2; exact z2))
theorem uI_put2 {a k t n e : Nat} {lo hi x : Int} {i : Int} (hT : uI s) (ha : hK (a) = some k) (hk : ueR k = some (t, n, e, lo, hi)) (hx : uO (e, lo, hi) x) : uI (s.1, im_up s.2 a i.toNat x) := by
  obtain ⟨z, h1, h2, h3, h4⟩ := ueR_ok hk
  refine ⟨hT.1, fun b k2 hb tl hj j hl => ?_⟩
  by_cases e9 : b = a ∧ j = i.toNat
  · obtain ⟨rfl, rfl⟩ := e9
    rw [ha] at hb
    cases hb
    rw [h2] at hj
    cases hj
    right
    show uO _ (im_up s.2 b i.toNat x b i.toNat)
    rw [im_up_same]
    exact hx
  · rcases hT.2 b k2 hb tl hj j hl with h | h
    · exact Or.inl h
    · right
      show uO _ (im_up s.2 a i.toNat x b j)
      rw [im_up_ne e9]
      exact h
theorem im_up_in {f : Nat → Nat → Int} {a k j b : Nat} {x : Int} (ha : hK (a) = some k) (hb : b < 582) : im_up f a j x b = f b := by
  funext z
  exact im_up_ne (fun h => by have := hK_ge ha; omega)
/-- an int into a row of ints or chars -/
theorem ir_uis {i9 : Instr} {a k t n : Nat} {lo hi i x : Int} (hf : rm_find M.1 pc = some (i9, 1)) (hc : rm_ck i9 = none) (ho : im_op gG M.2.2.1 M.2.1 L ys i9 1 = some (im_iast gG t)) (hp : pc + 1 = pc') (hk : ueR k = some (t, n, 0, lo, hi)) (ha : hK (a) = some k) (hT : uI s) (i1 : 0 ≤ i) (i2 : i < n) (hx : im_fit t x = true) (x1 : lo ≤ x) (x2 : x ≤ hi) (h : ∀ s', uI s' → s'.1 = s.1 → s'.2 = im_up s.2 a i.toNat x → ir gG P L ys d M (pc', lv, st, s') Q) : ir gG P L ys d M (pc, lv, (0, x) :: (0, i) :: (2, (a : Int)) :: st, s) Q := by
  obtain ⟨z, h1, h2, h3, h4⟩ := ueR_ok hk
  exact ir_iast hf hc ho hp (by rw [hG_at ha]; exact h1) i1 i2 hx (h _ (uI_put2 hT ha hk ((uO_n (by decide)).mpr ⟨x1, x2⟩)) rfl rfl)
theorem ir_ubs {a k t n : Nat} {lo hi i x : Int} (hf : rm_find M.1 pc = some (.bastore, 1)) (hp : pc + 1 = pc') (hk : ueR k = some (t, n, 0, lo, hi)) (ht : t = 3 ∨ t = 4) (ha : hK (a) = some k) (hT : uI s) (i1 : 0 ≤ i) (i2 : i < n) (hx : im_fit t x = true) (x1 : lo ≤ x) (x2 : x ≤ hi) (h : ∀ s', uI s' → s'.1 = s.1 → s'.2 = im_up s.2 a i.toNat x → ir gG P L ys d M (pc', lv, st, s') Q) : ir gG P L ys d M (pc, lv, (0, x) :: (0, i) :: (2, (a : Int)) :: st, s) Q := by
  obtain ⟨z, h1, h2, h3, h4⟩ := ueR_ok hk
  exact ir_bast hf hp (by rw [hG_at ha]; exact h1) ht i1 i2 hx (h _ (uI_put2 hT ha hk ((uO_n (by decide)).mpr ⟨x1, x2⟩)) rfl rfl)
theorem ir_uls {a k n : Nat} {lo hi i x : Int} (hf : rm_find M.1 pc = some (.lastore, 1)) (hp : pc + 1 = pc') (hk : ueR k = some (1, n, 1, lo, hi)) (ha : hK (a) = some k) (hT : uI s) (i1 : 0 ≤ i) (i2 : i < n) (x1 : lo ≤ x) (x2 : x ≤ hi) (h : ∀ s', uI s' → s'.1 = s.1 → s'.2 = im_up s.2 a i.toNat x → ir gG P L ys d M (pc', lv, st, s') Q) : ir gG P L ys d M (pc, lv, (1, x) :: (0, i) :: (2, (a : Int)) :: st, s) Q := by
  obtain ⟨z, h1, h2, h3, h4⟩ := ueR_ok hk
  exact ir_last hf hp (by rw [hG_at ha]; exact h1) i1 i2 (h _ (uI_put2 hT ha hk ((uO_n (by decide)).mpr ⟨x1, x2⟩)) rfl rfl)
theorem ir_ulen {a k t n e : Nat} {lo hi : Int} (hf : rm_find M.1 pc = some (.arraylength, 1)) (hp : pc + 1 = pc') (hk : ueR k = some (t, n, e, lo, hi)) (ht : decide (t < 8) = true) (ha : hK (a) = some k) (h : ir gG P L ys d M (pc', lv, (0, (n : Int)) :: st, s) Q) : ir gG P L ys d M (pc, lv, (2, (a : Int)) :: st, s) Q := by
  obtain ⟨z, h1, h2, h3, h4⟩ := ueR_ok hk
  exact ir_alen hf hp (by rw [hG_at ha]; exact h1) (of_decide_eq_true ht) (Int32.toInt_ofNat_of_lt (by omega)) h
end IRT

theorem uf_0_0 : ufR 0 0 10 = some 1 := by decide +kernel
theorem uf_0_1 : ufI 0 1 10 = some (0, 400) := by decide +kernel
theorem uf_0_2 : ufI 0 2 10 = some (0, 3) := by decide +kernel
theorem uf_0_3 : ufI 0 3 10 = some (-2, 400) := by decide +kernel
theorem uf_0_4 : ufI 0 4 10 = some (0, 400) := by decide +kernel
theorem uf_0_5 : ufI 0 5 10 = some (0, 1) := by decide +kernel
theorem uf_0_6 : ufI 0 6 10 = some (0, 10) := by decide +kernel
theorem uf_0_7 : ufR 0 7 10 = some 2 := by decide +kernel
theorem uf_0_8 : ufR 0 8 10 = some 3 := by decide +kernel
theorem uf_0_9 : ufR 0 9 10 = some 4 := by decide +kernel
theorem uf_0_10 : ufI 0 10 10 = some (0, 500) := by decide +kernel
theorem uf_0_11 : ufR 0 11 10 = some 5 := by decide +kernel
theorem uf_0_12 : ufI 0 12 10 = some (0, 500) := by decide +kernel
theorem uf_0_13 : ufR 0 13 10 = some 6 := by decide +kernel
theorem uf_0_14 : ufR 0 14 10 = some 7 := by decide +kernel
theorem uf_0_15 : ufR 0 15 10 = some 8 := by decide +kernel
theorem uf_0_16 : ufR 0 16 10 = some 9 := by decide +kernel
theorem uf_0_17 : ufR 0 17 10 = some 10 := by decide +kernel
theorem uf_0_18 : ufR 0 18 10 = some 11 := by decide +kernel
theorem uf_0_19 : ufR 0 19 10 = some 12 := by decide +kernel
theorem uf_0_20 : ufR 0 20 10 = some 13 := by decide +kernel
theorem uf_0_21 : ufI 0 21 10 = some (0, 10) := by decide +kernel
theorem uf_0_22 : ufR 0 22 10 = some 14 := by decide +kernel
theorem uf_0_23 : ufR 0 23 10 = some 15 := by decide +kernel
theorem uf_0_24 : ufI 0 24 10 = some (-2147483648, 2147483647) := by decide +kernel
theorem uf_0_25 : ufI 0 25 10 = some (-2147483648, 2147483647) := by decide +kernel
theorem uf_0_26 : ufR 0 26 10 = some 16 := by decide +kernel
theorem uf_0_27 : ufR 0 27 10 = some 17 := by decide +kernel
theorem uf_0_28 : ufI 0 28 10 = some (-2147483648, 2147483647) := by decide +kernel
theorem uf_0_29 : ufI 0 29 10 = some (-2147483648, 2147483647) := by decide +kernel
theorem uf_0_30 : ufR 0 30 10 = some 18 := by decide +kernel
theorem uf_0_31 : ufR 0 31 10 = some 19 := by decide +kernel
theorem uf_0_32 : ufI 0 32 10 = some (-2147483648, 2147483647) := by decide +kernel
theorem uf_0_33 : ufI 0 33 10 = some (-2147483648, 2147483647) := by decide +kernel
theorem uf_0_34 : ufI 0 34 10 = some (-2147483648, 2147483647) := by decide +kernel
theorem uf_0_35 : ufR 0 35 10 = some 20 := by decide +kernel
theorem uf_0_36 : ufI 0 36 10 = some (-2147483648, 2147483647) := by decide +kernel
theorem uf_0_37 : ufR 0 37 10 = some 21 := by decide +kernel
theorem uf_0_38 : ufR 0 38 10 = some 22 := by decide +kernel
theorem uf_0_39 : ufR 0 39 10 = some 23 := by decide +kernel
theorem uf_0_40 : ufR 0 40 10 = some 24 := by decide +kernel
theorem uf_0_41 : ufI 0 41 10 = some (0, 90) := by decide +kernel
theorem uf_0_42 : ufR 0 42 10 = some 25 := by decide +kernel
theorem uf_0_43 : ufR 0 43 10 = some 26 := by decide +kernel
theorem uf_0_44 : ufR 0 44 10 = some 27 := by decide +kernel
theorem uf_0_45 : ufR 0 45 10 = some 28 := by decide +kernel
theorem uf_0_46 : ufR 0 46 10 = some 29 := by decide +kernel
theorem uf_0_47 : ufR 0 47 10 = some 30 := by decide +kernel
theorem uf_0_48 : ufR 0 48 10 = some 31 := by decide +kernel
theorem uf_0_49 : ufR 0 49 10 = some 32 := by decide +kernel
theorem uf_0_50 : ufR 0 50 10 = some 33 := by decide +kernel
theorem uf_0_51 : ufR 0 51 10 = some 34 := by decide +kernel
theorem uf_0_52 : ufI 0 52 10 = some (-2147483648, 2147483647) := by decide +kernel
theorem uf_0_53 : ufR 0 53 10 = some 35 := by decide +kernel
theorem uf_0_54 : ufR 0 54 10 = some 36 := by decide +kernel
theorem usk_0 : hK 582 = some 0 := rfl
theorem usg_0 {b : Nat} (h : hK b = some 0) : b = 582 := by
  obtain ⟨h1, h2, h3⟩ := hK_ge h
  omega
theorem ue_1 : ueR 1 = some (0, 400, 0, 0, 126) := by decide +kernel
theorem usk_1 : hK 583 = some 1 := rfl
theorem usg_1 {b : Nat} (h : hK b = some 1) : b = 583 := by
  obtain ⟨h1, h2, h3⟩ := hK_ge h
  omega
theorem ue_2 : ueR 2 = some (1, 90, 1, -9223372036854775808, 9223372036854775807) := by decide +kernel
theorem usk_2 : hK 584 = some 2 := rfl
theorem usg_2 {b : Nat} (h : hK b = some 2) : b = 584 := by
  obtain ⟨h1, h2, h3⟩ := hK_ge h
  omega
theorem ue_3 : ueR 3 = some (0, 10, 0, 0, 2) := by decide +kernel
theorem usk_3 : hK 585 = some 3 := rfl
theorem usg_3 {b : Nat} (h : hK b = some 3) : b = 585 := by
  obtain ⟨h1, h2, h3⟩ := hK_ge h
  omega
theorem ue_4 : ueR 4 = some (0, 500, 0, -4, 9) := by decide +kernel
theorem usk_4 : hK 586 = some 4 := rfl
theorem usg_4 {b : Nat} (h : hK b = some 4) : b = 586 := by
  obtain ⟨h1, h2, h3⟩ := hK_ge h
  omega
theorem ue_5 : ueR 5 = some (0, 500, 0, -4, -1) := by decide +kernel
theorem usk_5 : hK 587 = some 5 := rfl
theorem usg_5 {b : Nat} (h : hK b = some 5) : b = 587 := by
  obtain ⟨h1, h2, h3⟩ := hK_ge h
  omega
theorem ue_6 : ueR 6 = some (4, 400, 0, 0, 1) := by decide +kernel
theorem usk_6 : hK 588 = some 6 := rfl
theorem usg_6 {b : Nat} (h : hK b = some 6) : b = 588 := by
  obtain ⟨h1, h2, h3⟩ := hK_ge h
  omega
theorem ue_7 : ueR 7 = some (1, 108, 1, -9223372036854775808, 9223372036854775807) := by decide +kernel
theorem usk_7 : hK 589 = some 7 := rfl
theorem usg_7 {b : Nat} (h : hK b = some 7) : b = 589 := by
  obtain ⟨h1, h2, h3⟩ := hK_ge h
  omega
theorem ue_8 : ueR 8 = some (1, 108, 1, -9223372036854775808, 9223372036854775807) := by decide +kernel
theorem usk_8 : hK 590 = some 8 := rfl
theorem usg_8 {b : Nat} (h : hK b = some 8) : b = 590 := by
  obtain ⟨h1, h2, h3⟩ := hK_ge h
  omega
theorem ue_9 : ueR 9 = some (1, 108, 1, -9223372036854775808, 9223372036854775807) := by decide +kernel
theorem usk_9 : hK 591 = some 9 := rfl
theorem usg_9 {b : Nat} (h : hK b = some 9) : b = 591 := by
  obtain ⟨h1, h2, h3⟩ := hK_ge h
  omega
theorem ue_10 : ueR 10 = some (1, 9, 1, -9223372036854775808, 9223372036854775807) := by decide +kernel
theorem usk_10 : hK 592 = some 10 := rfl
theorem usg_10 {b : Nat} (h : hK b = some 10) : b = 592 := by
  obtain ⟨h1, h2, h3⟩ := hK_ge h
  omega
theorem ue_11 : ueR 11 = some (0, 12, 0, -1, 1) := by decide +kernel
theorem usk_11 : hK 593 = some 11 := rfl
theorem usg_11 {b : Nat} (h : hK b = some 11) : b = 593 := by
  obtain ⟨h1, h2, h3⟩ := hK_ge h
  omega
theorem ue_12 : ueR 12 = some (0, 12, 0, -1, 400) := by decide +kernel
theorem usk_12 : hK 594 = some 12 := rfl
theorem usg_12 {b : Nat} (h : hK b = some 12) : b = 594 := by
  obtain ⟨h1, h2, h3⟩ := hK_ge h
  omega
theorem ue_13 : ueR 13 = some (0, 12, 0, -1, 400) := by decide +kernel
theorem usk_13 : hK 595 = some 13 := rfl
theorem usg_13 {b : Nat} (h : hK b = some 13) : b = 595 := by
  obtain ⟨h1, h2, h3⟩ := hK_ge h
  omega
theorem ue_14 : ueR 14 = some (1, 9, 1, -9223372036854775808, 9223372036854775807) := by decide +kernel
theorem usk_14 : hK 596 = some 14 := rfl
theorem usg_14 {b : Nat} (h : hK b = some 14) : b = 596 := by
  obtain ⟨h1, h2, h3⟩ := hK_ge h
  omega
theorem ue_15 : ueR 15 = some (0, 700000, 0, -2147483648, 2147483647) := by decide +kernel
theorem usk_15 : hK 597 = some 15 := rfl
theorem usg_15 {b : Nat} (h : hK b = some 15) : b = 597 := by
  obtain ⟨h1, h2, h3⟩ := hK_ge h
  omega
theorem ue_16 : ueR 16 = some (0, 1200, 0, -2147483648, 2147483647) := by decide +kernel
theorem usk_16 : hK 598 = some 16 := rfl
theorem usg_16 {b : Nat} (h : hK b = some 16) : b = 598 := by
  obtain ⟨h1, h2, h3⟩ := hK_ge h
  omega
theorem ue_17 : ueR 17 = some (0, 10800, 0, -2147483648, 2147483647) := by decide +kernel
theorem usk_17 : hK 599 = some 17 := rfl
theorem usg_17 {b : Nat} (h : hK b = some 17) : b = 599 := by
  obtain ⟨h1, h2, h3⟩ := hK_ge h
  omega
theorem ue_18 : ueR 18 = some (0, 12, 0, -2147483648, 2147483647) := by decide +kernel
theorem usk_18 : hK 600 = some 18 := rfl
theorem usg_18 {b : Nat} (h : hK b = some 18) : b = 600 := by
  obtain ⟨h1, h2, h3⟩ := hK_ge h
  omega
theorem ue_19 : ueR 19 = some (0, 20000, 0, -2147483648, 2147483647) := by decide +kernel
theorem usk_19 : hK 601 = some 19 := rfl
theorem usg_19 {b : Nat} (h : hK b = some 19) : b = 601 := by
  obtain ⟨h1, h2, h3⟩ := hK_ge h
  omega
theorem ue_20 : ueR 20 = some (0, 200, 0, -2147483648, 2147483647) := by decide +kernel
theorem usk_20 : hK 602 = some 20 := rfl
theorem usg_20 {b : Nat} (h : hK b = some 20) : b = 602 := by
  obtain ⟨h1, h2, h3⟩ := hK_ge h
  omega
theorem ue_21 : ueR 21 = some (0, 90, 0, -2147483648, 2147483647) := by decide +kernel
theorem usk_21 : hK 603 = some 21 := rfl
theorem usg_21 {b : Nat} (h : hK b = some 21) : b = 603 := by
  obtain ⟨h1, h2, h3⟩ := hK_ge h
  omega
theorem ue_22 : ueR 22 = some (0, 90, 0, -2147483648, 2147483647) := by decide +kernel
theorem usk_22 : hK 604 = some 22 := rfl
theorem usg_22 {b : Nat} (h : hK b = some 22) : b = 604 := by
  obtain ⟨h1, h2, h3⟩ := hK_ge h
  omega
theorem ue_23 : ueR 23 = some (0, 90, 0, -2147483648, 2147483647) := by decide +kernel
theorem usk_23 : hK 605 = some 23 := rfl
theorem usg_23 {b : Nat} (h : hK b = some 23) : b = 605 := by
  obtain ⟨h1, h2, h3⟩ := hK_ge h
  omega
theorem ue_24 : ueR 24 = some (0, 2000, 0, -2147483648, 2147483647) := by decide +kernel
theorem usk_24 : hK 606 = some 24 := rfl
theorem usg_24 {b : Nat} (h : hK b = some 24) : b = 606 := by
  obtain ⟨h1, h2, h3⟩ := hK_ge h
  omega
theorem ue_25 : ueR 25 = some (0, 90, 0, 0, 199) := by decide +kernel
theorem usk_25 : hK 607 = some 25 := rfl
theorem usg_25 {b : Nat} (h : hK b = some 25) : b = 607 := by
  obtain ⟨h1, h2, h3⟩ := hK_ge h
  omega
theorem ue_26 : ueR 26 = some (1, 90, 1, -9223372036854775808, 9223372036854775807) := by decide +kernel
theorem usk_26 : hK 608 = some 26 := rfl
theorem usg_26 {b : Nat} (h : hK b = some 26) : b = 608 := by
  obtain ⟨h1, h2, h3⟩ := hK_ge h
  omega
theorem ue_27 : ueR 27 = some (1, 90, 1, -9223372036854775808, 9223372036854775807) := by decide +kernel
theorem usk_27 : hK 609 = some 27 := rfl
theorem usg_27 {b : Nat} (h : hK b = some 27) : b = 609 := by
  obtain ⟨h1, h2, h3⟩ := hK_ge h
  omega
theorem ue_28 : ueR 28 = some (0, 90, 0, -2147483648, 2147483647) := by decide +kernel
theorem usk_28 : hK 610 = some 28 := rfl
theorem usg_28 {b : Nat} (h : hK b = some 28) : b = 610 := by
  obtain ⟨h1, h2, h3⟩ := hK_ge h
  omega
theorem ue_29 : ueR 29 = some (0, 90, 0, -2147483648, 2147483647) := by decide +kernel
theorem usk_29 : hK 611 = some 29 := rfl
theorem usg_29 {b : Nat} (h : hK b = some 29) : b = 611 := by
  obtain ⟨h1, h2, h3⟩ := hK_ge h
  omega
theorem ue_30 : ueR 30 = some (0, 90, 0, -2147483648, 2147483647) := by decide +kernel
theorem usk_30 : hK 612 = some 30 := rfl
theorem usg_30 {b : Nat} (h : hK b = some 30) : b = 612 := by
  obtain ⟨h1, h2, h3⟩ := hK_ge h
  omega
theorem ue_31 : ueR 31 = some (0, 90, 0, -2147483648, 2147483647) := by decide +kernel
theorem usk_31 : hK 613 = some 31 := rfl
theorem usg_31 {b : Nat} (h : hK b = some 31) : b = 613 := by
  obtain ⟨h1, h2, h3⟩ := hK_ge h
  omega
theorem ue_32 : ueR 32 = some (0, 90, 0, 0, 89) := by decide +kernel
theorem usk_32 : hK 614 = some 32 := rfl
theorem usg_32 {b : Nat} (h : hK b = some 32) : b = 614 := by
  obtain ⟨h1, h2, h3⟩ := hK_ge h
  omega
theorem ue_33 : ueR 33 = some (0, 800, 0, -2147483648, 2147483647) := by decide +kernel
theorem usk_33 : hK 615 = some 33 := rfl
theorem usg_33 {b : Nat} (h : hK b = some 33) : b = 615 := by
  obtain ⟨h1, h2, h3⟩ := hK_ge h
  omega
theorem ue_34 : ueR 34 = some (0, 800, 0, -2147483648, 2147483647) := by decide +kernel
theorem usk_34 : hK 616 = some 34 := rfl
theorem usg_34 {b : Nat} (h : hK b = some 34) : b = 616 := by
  obtain ⟨h1, h2, h3⟩ := hK_ge h
  omega
theorem ue_35 : ueR 35 = some (0, 2000, 0, -2147483648, 2147483647) := by decide +kernel
theorem usk_35 : hK 617 = some 35 := rfl
theorem usg_35 {b : Nat} (h : hK b = some 35) : b = 617 := by
  obtain ⟨h1, h2, h3⟩ := hK_ge h
  omega
theorem ue_36 : ueR 36 = some (4, 200, 0, 0, 1) := by decide +kernel
theorem usk_36 : hK 618 = some 36 := rfl
theorem usg_36 {b : Nat} (h : hK b = some 36) : b = 618 := by
  obtain ⟨h1, h2, h3⟩ := hK_ge h
  omega
theorem uI_i {s : im_S} {a k f ci : Nat} {lo hi : Int} (hk : ufI k f ci = some (lo, hi)) (ha : hK a = some k) (hT : uI s) : ∃ z, s.1 a f = z ∧ lo ≤ z ∧ z ≤ hi := by
  obtain ⟨tys, t, h1, h2, h3, h4, h5, h6, h7⟩ := ufI_ok hk
  have z := hT.1 a k ha f _ h3
  exact ⟨_, rfl, (uO_n h5).mp z⟩
theorem om_X10_addRoot : rm_P 7 = rm_p_X10_addRoot := rfl
theorem oo_X10_addRoot : (rm_P 7).2.2.2.2.2 = 10 := (congrArg (fun m : rm_M => m.2.2.2.2.2) om_X10_addRoot).trans rfl
theorem om_X10_again : rm_P 8 = rm_p_X10_again := rfl
theorem oo_X10_again : (rm_P 8).2.2.2.2.2 = 10 := (congrArg (fun m : rm_M => m.2.2.2.2.2) om_X10_again).trans rfl
theorem om_X10_against : rm_P 9 = rm_p_X10_against := rfl
theorem oo_X10_against : (rm_P 9).2.2.2.2.2 = 10 := (congrArg (fun m : rm_M => m.2.2.2.2.2) om_X10_against).trans rfl
theorem om_X10_at : rm_P 10 = rm_p_X10_at := rfl
theorem oo_X10_at : (rm_P 10).2.2.2.2.2 = 10 := (congrArg (fun m : rm_M => m.2.2.2.2.2) om_X10_at).trans rfl
theorem om_X10_atom : rm_P 11 = rm_p_X10_atom := rfl
theorem oo_X10_atom : (rm_P 11).2.2.2.2.2 = 10 := (congrArg (fun m : rm_M => m.2.2.2.2.2) om_X10_atom).trans rfl
theorem om_X10_beginSum : rm_P 12 = rm_p_X10_beginSum := rfl
theorem oo_X10_beginSum : (rm_P 12).2.2.2.2.2 = 10 := (congrArg (fun m : rm_M => m.2.2.2.2.2) om_X10_beginSum).trans rfl
theorem om_X10_by : rm_P 13 = rm_p_X10_by := rfl
theorem oo_X10_by : (rm_P 13).2.2.2.2.2 = 10 := (congrArg (fun m : rm_M => m.2.2.2.2.2) om_X10_by).trans rfl
theorem om_X10_cannot : rm_P 14 = rm_p_X10_cannot := rfl
theorem oo_X10_cannot : (rm_P 14).2.2.2.2.2 = 10 := (congrArg (fun m : rm_M => m.2.2.2.2.2) om_X10_cannot).trans rfl
theorem om_X10_cellOf : rm_P 15 = rm_p_X10_cellOf := rfl
theorem oo_X10_cellOf : (rm_P 15).2.2.2.2.2 = 10 := (congrArg (fun m : rm_M => m.2.2.2.2.2) om_X10_cellOf).trans rfl
theorem om_X10_cells : rm_P 16 = rm_p_X10_cells := rfl
theorem oo_X10_cells : (rm_P 16).2.2.2.2.2 = 10 := (congrArg (fun m : rm_M => m.2.2.2.2.2) om_X10_cells).trans rfl
theorem om_X10_changesAt : rm_P 17 = rm_p_X10_changesAt := rfl
theorem oo_X10_changesAt : (rm_P 17).2.2.2.2.2 = 10 := (congrArg (fun m : rm_M => m.2.2.2.2.2) om_X10_changesAt).trans rfl
theorem om_X10_changesAtHalf : rm_P 18 = rm_p_X10_changesAtHalf := rfl
theorem oo_X10_changesAtHalf : (rm_P 18).2.2.2.2.2 = 10 := (congrArg (fun m : rm_M => m.2.2.2.2.2) om_X10_changesAtHalf).trans rfl
theorem om_X10_clean : rm_P 19 = rm_p_X10_clean := rfl
theorem oo_X10_clean : (rm_P 19).2.2.2.2.2 = 10 := (congrArg (fun m : rm_M => m.2.2.2.2.2) om_X10_clean).trans rfl
theorem om_X10_comeBack : rm_P 20 = rm_p_X10_comeBack := rfl
theorem oo_X10_comeBack : (rm_P 20).2.2.2.2.2 = 10 := (congrArg (fun m : rm_M => m.2.2.2.2.2) om_X10_comeBack).trans rfl
theorem om_X10_common : rm_P 21 = rm_p_X10_common := rfl
theorem oo_X10_common : (rm_P 21).2.2.2.2.2 = 10 := (congrArg (fun m : rm_M => m.2.2.2.2.2) om_X10_common).trans rfl
theorem om_X10_common2 : rm_P 22 = rm_p_X10_common2 := rfl
theorem oo_X10_common2 : (rm_P 22).2.2.2.2.2 = 10 := (congrArg (fun m : rm_M => m.2.2.2.2.2) om_X10_common2).trans rfl
theorem om_X10_compare : rm_P 23 = rm_p_X10_compare := rfl
theorem oo_X10_compare : (rm_P 23).2.2.2.2.2 = 10 := (congrArg (fun m : rm_M => m.2.2.2.2.2) om_X10_compare).trans rfl
theorem om_X10_copyTo : rm_P 24 = rm_p_X10_copyTo := rfl
theorem oo_X10_copyTo : (rm_P 24).2.2.2.2.2 = 10 := (congrArg (fun m : rm_M => m.2.2.2.2.2) om_X10_copyTo).trans rfl
theorem om_X10_count : rm_P 25 = rm_p_X10_count := rfl
theorem oo_X10_count : (rm_P 25).2.2.2.2.2 = 10 := (congrArg (fun m : rm_M => m.2.2.2.2.2) om_X10_count).trans rfl
theorem om_X10_degreeOf : rm_P 26 = rm_p_X10_degreeOf := rfl
theorem oo_X10_degreeOf : (rm_P 26).2.2.2.2.2 = 10 := (congrArg (fun m : rm_M => m.2.2.2.2.2) om_X10_degreeOf).trans rfl
theorem om_X10_derivative : rm_P 27 = rm_p_X10_derivative := rfl
theorem oo_X10_derivative : (rm_P 27).2.2.2.2.2 = 10 := (congrArg (fun m : rm_M => m.2.2.2.2.2) om_X10_derivative).trans rfl
theorem om_X10_digit : rm_P 28 = rm_p_X10_digit := rfl
theorem oo_X10_digit : (rm_P 28).2.2.2.2.2 = 10 := (congrArg (fun m : rm_M => m.2.2.2.2.2) om_X10_digit).trans rfl
theorem om_X10_divide : rm_P 29 = rm_p_X10_divide := rfl
theorem oo_X10_divide : (rm_P 29).2.2.2.2.2 = 10 := (congrArg (fun m : rm_M => m.2.2.2.2.2) om_X10_divide).trans rfl
theorem om_X10_divisor : rm_P 30 = rm_p_X10_divisor := rfl
theorem oo_X10_divisor : (rm_P 30).2.2.2.2.2 = 10 := (congrArg (fun m : rm_M => m.2.2.2.2.2) om_X10_divisor).trans rfl
theorem om_X10_endBase : rm_P 31 = rm_p_X10_endBase := rfl
theorem oo_X10_endBase : (rm_P 31).2.2.2.2.2 = 10 := (congrArg (fun m : rm_M => m.2.2.2.2.2) om_X10_endBase).trans rfl
theorem om_X10_endBracket : rm_P 32 = rm_p_X10_endBracket := rfl
theorem oo_X10_endBracket : (rm_P 32).2.2.2.2.2 = 10 := (congrArg (fun m : rm_M => m.2.2.2.2.2) om_X10_endBracket).trans rfl
theorem om_X10_endTerm : rm_P 33 = rm_p_X10_endTerm := rfl
theorem oo_X10_endTerm : (rm_P 33).2.2.2.2.2 = 10 := (congrArg (fun m : rm_M => m.2.2.2.2.2) om_X10_endTerm).trans rfl
theorem om_X10_exact : rm_P 34 = rm_p_X10_exact := rfl
theorem oo_X10_exact : (rm_P 34).2.2.2.2.2 = 10 := (congrArg (fun m : rm_M => m.2.2.2.2.2) om_X10_exact).trans rfl
theorem om_X10_fail : rm_P 35 = rm_p_X10_fail := rfl
theorem oo_X10_fail : (rm_P 35).2.2.2.2.2 = 10 := (congrArg (fun m : rm_M => m.2.2.2.2.2) om_X10_fail).trans rfl
theorem om_X10_findAll : rm_P 36 = rm_p_X10_findAll := rfl
theorem oo_X10_findAll : (rm_P 36).2.2.2.2.2 = 10 := (congrArg (fun m : rm_M => m.2.2.2.2.2) om_X10_findAll).trans rfl
theorem om_X10_findRoots : rm_P 37 = rm_p_X10_findRoots := rfl
theorem oo_X10_findRoots : (rm_P 37).2.2.2.2.2 = 10 := (congrArg (fun m : rm_M => m.2.2.2.2.2) om_X10_findRoots).trans rfl
theorem om_X10_findTimes : rm_P 38 = rm_p_X10_findTimes := rfl
theorem oo_X10_findTimes : (rm_P 38).2.2.2.2.2 = 10 := (congrArg (fun m : rm_M => m.2.2.2.2.2) om_X10_findTimes).trans rfl
theorem om_X10_fitsSo : rm_P 39 = rm_p_X10_fitsSo := rfl
theorem oo_X10_fitsSo : (rm_P 39).2.2.2.2.2 = 10 := (congrArg (fun m : rm_M => m.2.2.2.2.2) om_X10_fitsSo).trans rfl
theorem om_X10_floor : rm_P 40 = rm_p_X10_floor := rfl
theorem oo_X10_floor : (rm_P 40).2.2.2.2.2 = 10 := (congrArg (fun m : rm_M => m.2.2.2.2.2) om_X10_floor).trans rfl
theorem om_X10_floorOf : rm_P 41 = rm_p_X10_floorOf := rfl
theorem oo_X10_floorOf : (rm_P 41).2.2.2.2.2 = 10 := (congrArg (fun m : rm_M => m.2.2.2.2.2) om_X10_floorOf).trans rfl
theorem om_X10_four : rm_P 42 = rm_p_X10_four := rfl
theorem oo_X10_four : (rm_P 42).2.2.2.2.2 = 10 := (congrArg (fun m : rm_M => m.2.2.2.2.2) om_X10_four).trans rfl
theorem om_X10_gcd : rm_P 43 = rm_p_X10_gcd := rfl
theorem oo_X10_gcd : (rm_P 43).2.2.2.2.2 = 10 := (congrArg (fun m : rm_M => m.2.2.2.2.2) om_X10_gcd).trans rfl
theorem om_X10_giveBack : rm_P 44 = rm_p_X10_giveBack := rfl
theorem oo_X10_giveBack : (rm_P 44).2.2.2.2.2 = 10 := (congrArg (fun m : rm_M => m.2.2.2.2.2) om_X10_giveBack).trans rfl
theorem om_X10_good : rm_P 45 = rm_p_X10_good := rfl
theorem oo_X10_good : (rm_P 45).2.2.2.2.2 = 10 := (congrArg (fun m : rm_M => m.2.2.2.2.2) om_X10_good).trans rfl
theorem om_X10_holdingMany : rm_P 46 = rm_p_X10_holdingMany := rfl
theorem oo_X10_holdingMany : (rm_P 46).2.2.2.2.2 = 10 := (congrArg (fun m : rm_M => m.2.2.2.2.2) om_X10_holdingMany).trans rfl
theorem om_X10_holds : rm_P 47 = rm_p_X10_holds := rfl
theorem oo_X10_holds : (rm_P 47).2.2.2.2.2 = 10 := (congrArg (fun m : rm_M => m.2.2.2.2.2) om_X10_holds).trans rfl
theorem om_X10_isAtom : rm_P 49 = rm_p_X10_isAtom := rfl
theorem oo_X10_isAtom : (rm_P 49).2.2.2.2.2 = 10 := (congrArg (fun m : rm_M => m.2.2.2.2.2) om_X10_isAtom).trans rfl
theorem om_X10_isBefore : rm_P 50 = rm_p_X10_isBefore := rfl
theorem oo_X10_isBefore : (rm_P 50).2.2.2.2.2 = 10 := (congrArg (fun m : rm_M => m.2.2.2.2.2) om_X10_isBefore).trans rfl
theorem om_X10_isCell : rm_P 51 = rm_p_X10_isCell := rfl
theorem oo_X10_isCell : (rm_P 51).2.2.2.2.2 = 10 := (congrArg (fun m : rm_M => m.2.2.2.2.2) om_X10_isCell).trans rfl
theorem om_X10_isDigit : rm_P 52 = rm_p_X10_isDigit := rfl
theorem oo_X10_isDigit : (rm_P 52).2.2.2.2.2 = 10 := (congrArg (fun m : rm_M => m.2.2.2.2.2) om_X10_isDigit).trans rfl
theorem om_X10_isFine : rm_P 53 = rm_p_X10_isFine := rfl
theorem oo_X10_isFine : (rm_P 53).2.2.2.2.2 = 10 := (congrArg (fun m : rm_M => m.2.2.2.2.2) om_X10_isFine).trans rfl
theorem om_X10_isNumber : rm_P 54 = rm_p_X10_isNumber := rfl
theorem oo_X10_isNumber : (rm_P 54).2.2.2.2.2 = 10 := (congrArg (fun m : rm_M => m.2.2.2.2.2) om_X10_isNumber).trans rfl
theorem om_X10_isRoot : rm_P 55 = rm_p_X10_isRoot := rfl
theorem oo_X10_isRoot : (rm_P 55).2.2.2.2.2 = 10 := (congrArg (fun m : rm_M => m.2.2.2.2.2) om_X10_isRoot).trans rfl
theorem om_X10_isSign : rm_P 56 = rm_p_X10_isSign := rfl
theorem oo_X10_isSign : (rm_P 56).2.2.2.2.2 = 10 := (congrArg (fun m : rm_M => m.2.2.2.2.2) om_X10_isSign).trans rfl
theorem om_X10_isSo : rm_P 57 = rm_p_X10_isSo := rfl
theorem oo_X10_isSo : (rm_P 57).2.2.2.2.2 = 10 := (congrArg (fun m : rm_M => m.2.2.2.2.2) om_X10_isSo).trans rfl
theorem om_X10_isToken : rm_P 58 = rm_p_X10_isToken := rfl
theorem oo_X10_isToken : (rm_P 58).2.2.2.2.2 = 10 := (congrArg (fun m : rm_M => m.2.2.2.2.2) om_X10_isToken).trans rfl
theorem om_X10_join : rm_P 59 = rm_p_X10_join := rfl
theorem oo_X10_join : (rm_P 59).2.2.2.2.2 = 10 := (congrArg (fun m : rm_M => m.2.2.2.2.2) om_X10_join).trans rfl
theorem om_X10_joined : rm_P 60 = rm_p_X10_joined := rfl
theorem oo_X10_joined : (rm_P 60).2.2.2.2.2 = 10 := (congrArg (fun m : rm_M => m.2.2.2.2.2) om_X10_joined).trans rfl
theorem om_X10_judge : rm_P 61 = rm_p_X10_judge := rfl
theorem oo_X10_judge : (rm_P 61).2.2.2.2.2 = 10 := (congrArg (fun m : rm_M => m.2.2.2.2.2) om_X10_judge).trans rfl
theorem om_X10_keep : rm_P 62 = rm_p_X10_keep := rfl
theorem oo_X10_keep : (rm_P 62).2.2.2.2.2 = 10 := (congrArg (fun m : rm_M => m.2.2.2.2.2) om_X10_keep).trans rfl
theorem om_X10_less : rm_P 63 = rm_p_X10_less := rfl
theorem oo_X10_less : (rm_P 63).2.2.2.2.2 = 10 := (congrArg (fun m : rm_M => m.2.2.2.2.2) om_X10_less).trans rfl
theorem om_X10_limbs : rm_P 64 = rm_p_X10_limbs := rfl
theorem oo_X10_limbs : (rm_P 64).2.2.2.2.2 = 10 := (congrArg (fun m : rm_M => m.2.2.2.2.2) om_X10_limbs).trans rfl
theorem om_X10_load : rm_P 65 = rm_p_X10_load := rfl
theorem oo_X10_load : (rm_P 65).2.2.2.2.2 = 10 := (congrArg (fun m : rm_M => m.2.2.2.2.2) om_X10_load).trans rfl
theorem om_X10_look : rm_P 66 = rm_p_X10_look := rfl
theorem oo_X10_look : (rm_P 66).2.2.2.2.2 = 10 := (congrArg (fun m : rm_M => m.2.2.2.2.2) om_X10_look).trans rfl
theorem om_X10_make : rm_P 67 = rm_p_X10_make := rfl
theorem oo_X10_make : (rm_P 67).2.2.2.2.2 = 10 := (congrArg (fun m : rm_M => m.2.2.2.2.2) om_X10_make).trans rfl
theorem om_X10_makeChain : rm_P 68 = rm_p_X10_makeChain := rfl
theorem oo_X10_makeChain : (rm_P 68).2.2.2.2.2 = 10 := (congrArg (fun m : rm_M => m.2.2.2.2.2) om_X10_makeChain).trans rfl
theorem om_X10_minus : rm_P 69 = rm_p_X10_minus := rfl
theorem oo_X10_minus : (rm_P 69).2.2.2.2.2 = 10 := (congrArg (fun m : rm_M => m.2.2.2.2.2) om_X10_minus).trans rfl
theorem om_X10_mostBelow : rm_P 70 = rm_p_X10_mostBelow := rfl
theorem oo_X10_mostBelow : (rm_P 70).2.2.2.2.2 = 10 := (congrArg (fun m : rm_M => m.2.2.2.2.2) om_X10_mostBelow).trans rfl
theorem om_X10_multiply : rm_P 71 = rm_p_X10_multiply := rfl
theorem oo_X10_multiply : (rm_P 71).2.2.2.2.2 = 10 := (congrArg (fun m : rm_M => m.2.2.2.2.2) om_X10_multiply).trans rfl
theorem om_X10_newPolynomial : rm_P 72 = rm_p_X10_newPolynomial := rfl
theorem oo_X10_newPolynomial : (rm_P 72).2.2.2.2.2 = 10 := (congrArg (fun m : rm_M => m.2.2.2.2.2) om_X10_newPolynomial).trans rfl
theorem om_X10_number : rm_P 73 = rm_p_X10_number := rfl
theorem oo_X10_number : (rm_P 73).2.2.2.2.2 = 10 := (congrArg (fun m : rm_M => m.2.2.2.2.2) om_X10_number).trans rfl
theorem om_X10_over : rm_P 74 = rm_p_X10_over := rfl
theorem oo_X10_over : (rm_P 74).2.2.2.2.2 = 10 := (congrArg (fun m : rm_M => m.2.2.2.2.2) om_X10_over).trans rfl
theorem om_X10_part1 : rm_P 75 = rm_p_X10_part1 := rfl
theorem oo_X10_part1 : (rm_P 75).2.2.2.2.2 = 10 := (congrArg (fun m : rm_M => m.2.2.2.2.2) om_X10_part1).trans rfl
theorem om_X10_peek : rm_P 76 = rm_p_X10_peek := rfl
theorem oo_X10_peek : (rm_P 76).2.2.2.2.2 = 10 := (congrArg (fun m : rm_M => m.2.2.2.2.2) om_X10_peek).trans rfl
theorem om_X10_plus : rm_P 77 = rm_p_X10_plus := rfl
theorem oo_X10_plus : (rm_P 77).2.2.2.2.2 = 10 := (congrArg (fun m : rm_M => m.2.2.2.2.2) om_X10_plus).trans rfl
theorem om_X10_plus1 : rm_P 78 = rm_p_X10_plus1 := rfl
theorem oo_X10_plus1 : (rm_P 78).2.2.2.2.2 = 10 := (congrArg (fun m : rm_M => m.2.2.2.2.2) om_X10_plus1).trans rfl
theorem om_X10_polynomialOf : rm_P 79 = rm_p_X10_polynomialOf := rfl
theorem oo_X10_polynomialOf : (rm_P 79).2.2.2.2.2 = 10 := (congrArg (fun m : rm_M => m.2.2.2.2.2) om_X10_polynomialOf).trans rfl
theorem om_X10_powerOfTwo : rm_P 80 = rm_p_X10_powerOfTwo := rfl
theorem oo_X10_powerOfTwo : (rm_P 80).2.2.2.2.2 = 10 := (congrArg (fun m : rm_M => m.2.2.2.2.2) om_X10_powerOfTwo).trans rfl
theorem om_X10_raise : rm_P 81 = rm_p_X10_raise := rfl
theorem oo_X10_raise : (rm_P 81).2.2.2.2.2 = 10 := (congrArg (fun m : rm_M => m.2.2.2.2.2) om_X10_raise).trans rfl
theorem om_X10_readAtom : rm_P 82 = rm_p_X10_readAtom := rfl
theorem oo_X10_readAtom : (rm_P 82).2.2.2.2.2 = 10 := (congrArg (fun m : rm_M => m.2.2.2.2.2) om_X10_readAtom).trans rfl
theorem om_X10_readSum : rm_P 83 = rm_p_X10_readSum := rfl
theorem oo_X10_readSum : (rm_P 83).2.2.2.2.2 = 10 := (congrArg (fun m : rm_M => m.2.2.2.2.2) om_X10_readSum).trans rfl
theorem om_X10_readText : rm_P 84 = rm_p_X10_readText := rfl
theorem oo_X10_readText : (rm_P 84).2.2.2.2.2 = 10 := (congrArg (fun m : rm_M => m.2.2.2.2.2) om_X10_readText).trans rfl
theorem om_X10_refine : rm_P 85 = rm_p_X10_refine := rfl
theorem oo_X10_refine : (rm_P 85).2.2.2.2.2 = 10 := (congrArg (fun m : rm_M => m.2.2.2.2.2) om_X10_refine).trans rfl
theorem om_X10_reserve : rm_P 86 = rm_p_X10_reserve := rfl
theorem oo_X10_reserve : (rm_P 86).2.2.2.2.2 = 10 := (congrArg (fun m : rm_M => m.2.2.2.2.2) om_X10_reserve).trans rfl
theorem om_X10_restOf : rm_P 87 = rm_p_X10_restOf := rfl
theorem oo_X10_restOf : (rm_P 87).2.2.2.2.2 = 10 := (congrArg (fun m : rm_M => m.2.2.2.2.2) om_X10_restOf).trans rfl
theorem om_X10_restRoots : rm_P 88 = rm_p_X10_restRoots := rfl
theorem oo_X10_restRoots : (rm_P 88).2.2.2.2.2 = 10 := (congrArg (fun m : rm_M => m.2.2.2.2.2) om_X10_restRoots).trans rfl
theorem om_X10_root : rm_P 89 = rm_p_X10_root := rfl
theorem oo_X10_root : (rm_P 89).2.2.2.2.2 = 10 := (congrArg (fun m : rm_M => m.2.2.2.2.2) om_X10_root).trans rfl
theorem om_X10_set : rm_P 90 = rm_p_X10_set := rfl
theorem oo_X10_set : (rm_P 90).2.2.2.2.2 = 10 := (congrArg (fun m : rm_M => m.2.2.2.2.2) om_X10_set).trans rfl
theorem om_X10_settle : rm_P 91 = rm_p_X10_settle := rfl
theorem oo_X10_settle : (rm_P 91).2.2.2.2.2 = 10 := (congrArg (fun m : rm_M => m.2.2.2.2.2) om_X10_settle).trans rfl
theorem om_X10_sgn : rm_P 92 = rm_p_X10_sgn := rfl
theorem oo_X10_sgn : (rm_P 92).2.2.2.2.2 = 10 := (congrArg (fun m : rm_M => m.2.2.2.2.2) om_X10_sgn).trans rfl
theorem om_X10_share : rm_P 93 = rm_p_X10_share := rfl
theorem oo_X10_share : (rm_P 93).2.2.2.2.2 = 10 := (congrArg (fun m : rm_M => m.2.2.2.2.2) om_X10_share).trans rfl
theorem om_X10_sign : rm_P 94 = rm_p_X10_sign := rfl
theorem oo_X10_sign : (rm_P 94).2.2.2.2.2 = 10 := (congrArg (fun m : rm_M => m.2.2.2.2.2) om_X10_sign).trans rfl
theorem om_X10_signAll : rm_P 95 = rm_p_X10_signAll := rfl
theorem oo_X10_signAll : (rm_P 95).2.2.2.2.2 = 10 := (congrArg (fun m : rm_M => m.2.2.2.2.2) om_X10_signAll).trans rfl
theorem om_X10_signAt : rm_P 96 = rm_p_X10_signAt := rfl
theorem oo_X10_signAt : (rm_P 96).2.2.2.2.2 = 10 := (congrArg (fun m : rm_M => m.2.2.2.2.2) om_X10_signAt).trans rfl
theorem om_X10_signAt2 : rm_P 97 = rm_p_X10_signAt2 := rfl
theorem oo_X10_signAt2 : (rm_P 97).2.2.2.2.2 = 10 := (congrArg (fun m : rm_M => m.2.2.2.2.2) om_X10_signAt2).trans rfl
theorem om_X10_simple : rm_P 98 = rm_p_X10_simple := rfl
theorem oo_X10_simple : (rm_P 98).2.2.2.2.2 = 10 := (congrArg (fun m : rm_M => m.2.2.2.2.2) om_X10_simple).trans rfl
theorem om_X10_stay : rm_P 99 = rm_p_X10_stay := rfl
theorem oo_X10_stay : (rm_P 99).2.2.2.2.2 = 10 := (congrArg (fun m : rm_M => m.2.2.2.2.2) om_X10_stay).trans rfl
theorem om_X10_takeBase : rm_P 100 = rm_p_X10_takeBase := rfl
theorem oo_X10_takeBase : (rm_P 100).2.2.2.2.2 = 10 := (congrArg (fun m : rm_M => m.2.2.2.2.2) om_X10_takeBase).trans rfl
theorem om_X10_times : rm_P 101 = rm_p_X10_times := rfl
theorem oo_X10_times : (rm_P 101).2.2.2.2.2 = 10 := (congrArg (fun m : rm_M => m.2.2.2.2.2) om_X10_times).trans rfl
theorem om_X10_timesAt : rm_P 102 = rm_p_X10_timesAt := rfl
theorem oo_X10_timesAt : (rm_P 102).2.2.2.2.2 = 10 := (congrArg (fun m : rm_M => m.2.2.2.2.2) om_X10_timesAt).trans rfl
theorem om_X10_type : rm_P 103 = rm_p_X10_type := rfl
theorem oo_X10_type : (rm_P 103).2.2.2.2.2 = 10 := (congrArg (fun m : rm_M => m.2.2.2.2.2) om_X10_type).trans rfl
theorem om_X10_valueOf : rm_P 104 = rm_p_X10_valueOf := rfl
theorem oo_X10_valueOf : (rm_P 104).2.2.2.2.2 = 10 := (congrArg (fun m : rm_M => m.2.2.2.2.2) om_X10_valueOf).trans rfl
theorem om_X10_wait1 : rm_P 105 = rm_p_X10_wait1 := rfl
theorem oo_X10_wait1 : (rm_P 105).2.2.2.2.2 = 10 := (congrArg (fun m : rm_M => m.2.2.2.2.2) om_X10_wait1).trans rfl
theorem om_X10_weigh : rm_P 106 = rm_p_X10_weigh := rfl
theorem oo_X10_weigh : (rm_P 106).2.2.2.2.2 = 10 := (congrArg (fun m : rm_M => m.2.2.2.2.2) om_X10_weigh).trans rfl
theorem om_X10_whole : rm_P 107 = rm_p_X10_whole := rfl
theorem oo_X10_whole : (rm_P 107).2.2.2.2.2 = 10 := (congrArg (fun m : rm_M => m.2.2.2.2.2) om_X10_whole).trans rfl
