/-! STEPS OVER CELLS THAT KEEP TO THEIR KINDS -/
def tO (tl : Nat × Int × Int) (x : Int) : Prop := if tl.1 = 3 then 0 ≤ x ∧ gK[x.toNat]? = some tl.2.1.toNat else tl.2.1 ≤ x ∧ x ≤ tl.2.2
/-- all cells of the class hold what their kinds allow -/
def tI (s : im_S) : Prop := (∀ a k, gK[a]? = some k → ∀ f tl, (gF.getD k [])[f]? = some tl → tO tl (s.1 a f)) ∧ ∀ a k, gK[a]? = some k → ∀ tl, gE[k]? = some tl → ∀ i : Nat, i < (gS.getD k (0, 0, [])).2.1 → tl.1 = 9 ∨ tO tl (s.2 a i)
/-- only these fields of these kinds have changed, and nothing that isn't the class's -/
def fr (l : List (Nat × Nat)) (s0 s : im_S) : Prop := (∀ a k, gK[a]? = some k → ∀ f, (k, f) ∉ l → s.1 a f = s0.1 a f) ∧ ∀ a, 582 ≤ a → s.1 a = s0.1 a ∧ s.2 a = s0.2 a
theorem fr_refl (l : List (Nat × Nat)) (s : im_S) : fr l s s := ⟨fun _ _ _ _ _ => rfl, fun _ _ => ⟨rfl, rfl⟩⟩
theorem fr_trans {l l2 : List (Nat × Nat)} {s0 s s2 : im_S} (h : fr l s0 s) (h2 : fr l2 s s2) (hl : l2.all (fun p => l.contains p) = true) : fr l s0 s2 := by
  refine ⟨fun a k ha f hf => ?_, fun a ha => ⟨(h2.2 a ha).1.trans (h.2 a ha).1, (h2.2 a ha).2.trans (h.2 a ha).2⟩⟩
  rw [h2.1 a k ha f (fun z => hf (by simpa using List.all_eq_true.mp hl (k, f) z)), h.1 a k ha f hf]
set_option maxRecDepth 100000 in
theorem gK_len : gK.length = 582 := by decide +kernel
theorem gK_lt {a k : Nat} (h : gK[a]? = some k) : a < 582 := by
  have z := (List.getElem?_eq_some_iff.mp h).1
  rw [gK_len] at z
  exact z
theorem tO_n {e : Nat} {lo hi x : Int} (h : e ≠ 3) : tO (e, lo, hi) x ↔ lo ≤ x ∧ x ≤ hi := by
  unfold tO
  rw [if_neg h]
set_option maxRecDepth 100000 in
theorem gG_all : (List.range 582).all (fun a => decide (gG[a]? = (match gK[a]? with
  | some k => gS[k]?
  | none => none))) = true := by decide +kernel
theorem gG_at {a k : Nat} (h : gK[a]? = some k) : gG[a]? = gS[k]? := by
  have z := List.all_eq_true.mp gG_all a (List.mem_range.mpr (gK_lt h))
  rw [h] at z
  exact of_decide_eq_true z
theorem fr_put {l : List (Nat × Nat)} {s0 s s' : im_S} {a k f : Nat} (h : fr l s0 s) (hl : l.contains (k, f) = true) (ha : gK[a]? = some k) (g : ∀ b j, ¬ (b = a ∧ j = f) → s'.1 b j = s.1 b j) (r : s'.2 = s.2) : fr l s0 s' := by
  refine ⟨fun b k2 hb j hj => ?_, fun b hb => ?_⟩
  · rw [g b j (fun z => by
      obtain ⟨rfl, rfl⟩ := z
      rw [ha] at hb
      cases hb
      exact hj (by simpa using hl)), h.1 b k2 hb j hj]
  · refine ⟨?_, by rw [r]; exact (h.2 b hb).2⟩
    funext j
    rw [g b j (fun z => by have := gK_lt ha; omega), (h.2 b hb).1]
theorem fr_row {l : List (Nat × Nat)} {s0 s s' : im_S} (h : fr l s0 s) (r : s'.1 = s.1) (g : ∀ b, 582 ≤ b → s'.2 b = s.2 b) : fr l s0 s' :=
  ⟨fun b k2 hb j hj => by rw [r]; exact h.1 b k2 hb j hj, fun b hb => ⟨by rw [r]; exact (h.2 b hb).1, by rw [g b hb]; exact (h.2 b hb).2⟩⟩
-- the tables
def tfI (k f ci : Nat) : Option (Int × Int) := match gS[k]?, (gF.getD k [])[f]? with
  | some (0, ci', tys), some (t, lo, hi) => if ci' = ci ∧ tys[f]? = some t ∧ t ≠ 1 ∧ t ≠ 3 ∧ -2147483648 ≤ lo ∧ hi ≤ 2147483647 then some (lo, hi) else none
  | _, _ => none
def tfJ (k f ci : Nat) : Option (Int × Int) := match gS[k]?, (gF.getD k [])[f]? with
  | some (0, ci', tys), some (t, lo, hi) => if ci' = ci ∧ tys[f]? = some 1 ∧ t = 1 ∧ -9223372036854775808 ≤ lo ∧ hi ≤ 9223372036854775807 then some (lo, hi) else none
  | _, _ => none
def tfR (k f ci : Nat) : Option Nat := match gS[k]?, (gF.getD k [])[f]? with
  | some (0, ci', tys), some (t, lo, _) => if ci' = ci ∧ tys[f]? = some 3 ∧ t = 3 then some lo.toNat else none
  | _, _ => none
/-- a row's type, length and bounds -/
def teR (k : Nat) : Option (Nat × Nat × Nat × Int × Int) := match gS[k]?, gE[k]? with
  | some (t + 1, n, _), some (e, lo, hi) => if e ≠ 9 ∧ n < 2147483648 then some (t, n, e, lo, hi) else none
  | _, _ => none
theorem tfI_ok {k f ci : Nat} {lo hi : Int} (h : tfI k f ci = some (lo, hi)) : ∃ tys t, gS[k]? = some (0, ci, tys) ∧ tys[f]? = some t ∧ (gF.getD k [])[f]? = some (t, lo, hi) ∧ t ≠ 1 ∧ t ≠ 3 ∧ -2147483648 ≤ lo ∧ hi ≤ 2147483647 := by
  unfold tfI at h
  split at h
  · rename_i ci' tys t lo' hi' h1 h2
    split at h
    · rename_i hc
      cases h
      obtain ⟨rfl, c2, c3, c4, c5, c6⟩ := hc
      exact ⟨tys, t, h1, c2, h2, c3, c4, c5, c6⟩
    · cases h
  · cases h
theorem tfJ_ok {k f ci : Nat} {lo hi : Int} (h : tfJ k f ci = some (lo, hi)) : ∃ tys, gS[k]? = some (0, ci, tys) ∧ tys[f]? = some 1 ∧ (gF.getD k [])[f]? = some (1, lo, hi) ∧ -9223372036854775808 ≤ lo ∧ hi ≤ 9223372036854775807 := by
  unfold tfJ at h
  split at h
  · rename_i ci' tys t lo' hi' h1 h2
    split at h
    · rename_i hc
      cases h
      obtain ⟨rfl, c2, rfl, c5, c6⟩ := hc
      exact ⟨tys, h1, c2, h2, c5, c6⟩
    · cases h
  · cases h
theorem tfR_ok {k f ci k2 : Nat} (h : tfR k f ci = some k2) : ∃ tys lo hi, gS[k]? = some (0, ci, tys) ∧ tys[f]? = some 3 ∧ (gF.getD k [])[f]? = some (3, lo, hi) ∧ lo.toNat = k2 := by
  unfold tfR at h
  split at h
  · rename_i ci' tys t lo' hi' h1 h2
    split at h
    · rename_i hc
      cases h
      obtain ⟨rfl, c2, rfl⟩ := hc
      exact ⟨tys, lo', hi', h1, c2, h2, rfl⟩
    · cases h
  · cases h
theorem teR_ok {k t n e : Nat} {lo hi : Int} (h : teR k = some (t, n, e, lo, hi)) : ∃ z, gS[k]? = some (t + 1, n, z) ∧ gE[k]? = some (e, lo, hi) ∧ e ≠ 9 ∧ n < 2147483648 := by
  unfold teR at h
  split at h
  · rename_i t' n' z e' lo' hi' h1 h2
    split at h
    · rename_i hc
      cases h
      exact ⟨z, h1, h2, hc.1, hc.2⟩
    · cases h
  · cases h
section IRT
variable {P : Nat → rm_M} {L : Nat} {ys : Nat → Int32} {d : Nat} {M : rm_M} {pc pc' : Nat} {lv lv' : List (Nat × im_V)} {st : List im_V} {s : im_S} {Q : im_Re → Prop}
theorem ir_tgi {idx ci f w a k : Nat} {lo hi : Int} (hf : rm_find M.1 pc = some (.getfield idx, 3)) (hl : rm_lk M.2.1 idx = some (0, ci, f, w)) (hp : pc + 3 = pc') (hk : tfI k f ci = some (lo, hi)) (ha : gK[a]? = some k) (hT : tI s) (h : ∀ z, s.1 a f = z → lo ≤ z → z ≤ hi → ir gG P L ys d M (pc', lv, (0, z) :: st, s) Q) : ir gG P L ys d M (pc, lv, (2, (a : Int)) :: st, s) Q := by
  obtain ⟨tys, t, h1, h2, h3, h4, h5, h6, h7⟩ := tfI_ok hk
  have z := hT.1 a k ha f _ h3
  unfold tO at z
  rw [if_neg h5] at z
  dsimp only at z
  exact ir_getI hf hl hp (by rw [gG_at ha]; exact h1) h2 h4 h5 rfl (by omega) (by omega) (h _ rfl z.1 z.2)
theorem ir_tgj {idx ci f w a k : Nat} {lo hi : Int} (hf : rm_find M.1 pc = some (.getfield idx, 3)) (hl : rm_lk M.2.1 idx = some (0, ci, f, w)) (hp : pc + 3 = pc') (hk : tfJ k f ci = some (lo, hi)) (ha : gK[a]? = some k) (hT : tI s) (h : ∀ z, s.1 a f = z → lo ≤ z → z ≤ hi → ir gG P L ys d M (pc', lv, (1, z) :: st, s) Q) : ir gG P L ys d M (pc, lv, (2, (a : Int)) :: st, s) Q := by
  obtain ⟨tys, h1, h2, h3, h6, h7⟩ := tfJ_ok hk
  have z := hT.1 a k ha f _ h3
  have z := (tO_n (by decide)).mp z
  exact ir_getJ hf hl hp (by rw [gG_at ha]; exact h1) h2 rfl (by omega) (by omega) (h _ rfl z.1 z.2)
theorem ir_tgr {idx ci f w a k k2 : Nat} (hf : rm_find M.1 pc = some (.getfield idx, 3)) (hl : rm_lk M.2.1 idx = some (0, ci, f, w)) (hp : pc + 3 = pc') (hk : tfR k f ci = some k2) (ha : gK[a]? = some k) (hT : tI s) (h : ∀ b : Nat, s.1 a f = (b : Int) → gK[b]? = some k2 → ir gG P L ys d M (pc', lv, (2, (b : Int)) :: st, s) Q) : ir gG P L ys d M (pc, lv, (2, (a : Int)) :: st, s) Q := by
  obtain ⟨tys, lo, hi, h1, h2, h3, rfl⟩ := tfR_ok hk
  have z := hT.1 a k ha f _ h3
  unfold tO at z
  rw [if_pos rfl] at z
  obtain ⟨n, hn⟩ := Int.eq_ofNat_of_zero_le z.1
  exact ir_getR hf hl hp (by rw [gG_at ha]; exact h1) h2 hn (h n hn (by have z2 := z.2; rw [hn] at z2; exact z2))
theorem tI_put {a k f t : Nat} {lo hi x : Int} (hT : tI s) (ha : gK[a]? = some k) (h3 : (gF.getD k [])[f]? = some (t, lo, hi)) (hx : tO (t, lo, hi) x) : tI (im_up s.1 a f x, s.2) := by
  refine ⟨fun b k2 hb j tl hj => ?_, hT.2⟩
  by_cases e : b = a ∧ j = f
  · obtain ⟨rfl, rfl⟩ := e
    rw [ha] at hb
    cases hb
    rw [h3] at hj
    cases hj
    show tO _ (im_up s.1 b j x b j)
    rw [im_up_same]
    exact hx
  · show tO _ (im_up s.1 a f x b j)
    rw [im_up_ne e]
    exact hT.1 b k2 hb j tl hj
/-- an int (or a boolean) into a field -/
theorem ir_tpi {idx ci f a k w : Nat} {lo hi x : Int} (hf : rm_find M.1 pc = some (.putfield idx, 3)) (hl : rm_lk M.2.1 idx = some (0, ci, f, w)) (hp : pc + 3 = pc') (hk : tfI k f ci = some (lo, hi)) (hw : rm_fin ci f = false) (ha : gK[a]? = some k) (hT : tI s) (hfit : rm_fit (rm_ft ci f) (im_cv (0, x)) = true) (x1 : lo ≤ x) (x2 : x ≤ hi) (h : ∀ s', tI s' → s'.1 a f = x → (∀ b j, ¬ (b = a ∧ j = f) → s'.1 b j = s.1 b j) → s'.2 = s.2 → ir gG P L ys d M (pc', lv, st, s') Q) : ir gG P L ys d M (pc, lv, (0, x) :: (2, (a : Int)) :: st, s) Q := by
  obtain ⟨tys, t, h1, h2, h3, h4, h5, h6, h7⟩ := tfI_ok hk
  refine ir_put (v := (0, x)) hf hl hp (by rw [gG_at ha]; exact h1) h2 hfit hw ?_ (h _ (tI_put hT ha h3 ?_) (im_up_same _ _ _ _) (fun b j e => im_up_ne e) rfl)
  · unfold im_tg
    rw [if_neg h4, if_neg h5]
    rfl
  · unfold tO
    rw [if_neg h5]
    exact ⟨x1, x2⟩
theorem ir_tpj {idx ci f a k w : Nat} {lo hi x : Int} (hf : rm_find M.1 pc = some (.putfield idx, 3)) (hl : rm_lk M.2.1 idx = some (0, ci, f, w)) (hp : pc + 3 = pc') (hk : tfJ k f ci = some (lo, hi)) (hw : rm_fin ci f = false) (ha : gK[a]? = some k) (hT : tI s) (hfit : rm_fit (rm_ft ci f) (im_cv (1, x)) = true) (x1 : lo ≤ x) (x2 : x ≤ hi) (h : ∀ s', tI s' → s'.1 a f = x → (∀ b j, ¬ (b = a ∧ j = f) → s'.1 b j = s.1 b j) → s'.2 = s.2 → ir gG P L ys d M (pc', lv, st, s') Q) : ir gG P L ys d M (pc, lv, (1, x) :: (2, (a : Int)) :: st, s) Q := by
  obtain ⟨tys, h1, h2, h3, h6, h7⟩ := tfJ_ok hk
  refine ir_put (v := (1, x)) hf hl hp (by rw [gG_at ha]; exact h1) h2 hfit hw rfl (h _ (tI_put hT ha h3 ?_) (im_up_same _ _ _ _) (fun b j e => im_up_ne e) rfl)
  exact (tO_n (by decide)).mpr ⟨x1, x2⟩
theorem ir_tpr {idx ci f a b k k2 w : Nat} (hf : rm_find M.1 pc = some (.putfield idx, 3)) (hl : rm_lk M.2.1 idx = some (0, ci, f, w)) (hp : pc + 3 = pc') (hk : tfR k f ci = some k2) (hw : rm_fin ci f = false) (ha : gK[a]? = some k) (hT : tI s) (hfit : rm_fit (rm_ft ci f) (im_cv (2, (b : Int))) = true) (hb : gK[b]? = some k2) (h : ∀ s', tI s' → s'.1 a f = (b : Int) → (∀ b j, ¬ (b = a ∧ j = f) → s'.1 b j = s.1 b j) → s'.2 = s.2 → ir gG P L ys d M (pc', lv, st, s') Q) : ir gG P L ys d M (pc, lv, (2, (b : Int)) :: (2, (a : Int)) :: st, s) Q := by
  obtain ⟨tys, lo, hi, h1, h2, h3, rfl⟩ := tfR_ok hk
  refine ir_put (v := (2, (b : Int))) hf hl hp (by rw [gG_at ha]; exact h1) h2 hfit hw rfl (h _ (tI_put hT ha h3 ?_) (im_up_same _ _ _ _) (fun b j e => im_up_ne e) rfl)
  unfold tO
  rw [if_pos rfl]
  exact ⟨Int.natCast_nonneg b, hb⟩
theorem tI_row {a k t n e : Nat} {lo hi : Int} (hT : tI s) (ha : gK[a]? = some k) (hk : teR k = some (t, n, e, lo, hi)) {i : Int} (i1 : 0 ≤ i) (i2 : i < n) : tO (e, lo, hi) (s.2 a i.toNat) := by
  obtain ⟨z, h1, h2, h3, h4⟩ := teR_ok hk
  rcases hT.2 a k ha _ h2 i.toNat (by
    rw [List.getD_eq_getElem?_getD, h1]
    show i.toNat < n
    omega) with h | h
  · exact absurd h h3
  · exact h
/-- an int out of a row -/
theorem ir_tia {a k n : Nat} {lo hi i : Int} (hf : rm_find M.1 pc = some (.iaload, 1)) (hp : pc + 1 = pc') (hk : teR k = some (0, n, 0, lo, hi)) (hb : decide (-2147483648 ≤ lo ∧ hi ≤ 2147483647) = true) (ha : gK[a]? = some k) (hT : tI s) (i1 : 0 ≤ i) (i2 : i < n) (h : ∀ z, s.2 a i.toNat = z → lo ≤ z → z ≤ hi → ir gG P L ys d M (pc', lv, (0, z) :: st, s) Q) : ir gG P L ys d M (pc, lv, (0, i) :: (2, (a : Int)) :: st, s) Q := by
  have z := tI_row hT ha hk i1 i2
  have z := (tO_n (by decide)).mp z
  have hb := of_decide_eq_true hb
  obtain ⟨zz, h1, -⟩ := teR_ok hk
  exact ir_iald hf hp (by rw [gG_at ha]; exact h1) i1 i2 rfl (by omega) (by omega) (h _ rfl z.1 z.2)
theorem ir_tla {a k n : Nat} {lo hi i : Int} (hf : rm_find M.1 pc = some (.laload, 1)) (hp : pc + 1 = pc') (hk : teR k = some (1, n, 1, lo, hi)) (hb : decide (-9223372036854775808 ≤ lo ∧ hi ≤ 9223372036854775807) = true) (ha : gK[a]? = some k) (hT : tI s) (i1 : 0 ≤ i) (i2 : i < n) (h : ∀ z, s.2 a i.toNat = z → lo ≤ z → z ≤ hi → ir gG P L ys d M (pc', lv, (1, z) :: st, s) Q) : ir gG P L ys d M (pc, lv, (0, i) :: (2, (a : Int)) :: st, s) Q := by
  have z := tI_row hT ha hk i1 i2
  have z := (tO_n (by decide)).mp z
  have hb := of_decide_eq_true hb
  obtain ⟨zz, h1, -⟩ := teR_ok hk
  exact ir_lald hf hp (by rw [gG_at ha]; exact h1) i1 i2 rfl (by omega) (by omega) (h _ rfl z.1 z.2)
theorem ir_tca {a k n : Nat} {lo hi i : Int} (hf : rm_find M.1 pc = some (.caload, 1)) (hp : pc + 1 = pc') (hk : teR k = some (2, n, 0, lo, hi)) (hb : decide (-2147483648 ≤ lo ∧ hi ≤ 2147483647) = true) (ha : gK[a]? = some k) (hT : tI s) (i1 : 0 ≤ i) (i2 : i < n) (h : ∀ z, s.2 a i.toNat = z → lo ≤ z → z ≤ hi → ir gG P L ys d M (pc', lv, (0, z) :: st, s) Q) : ir gG P L ys d M (pc, lv, (0, i) :: (2, (a : Int)) :: st, s) Q := by
  have z := tI_row hT ha hk i1 i2
  have z := (tO_n (by decide)).mp z
  have hb := of_decide_eq_true hb
  obtain ⟨zz, h1, -⟩ := teR_ok hk
  exact ir_cald hf hp (by rw [gG_at ha]; exact h1) i1 i2 rfl (by omega) (by omega) (h _ rfl z.1 z.2)
theorem ir_tba {a k t n : Nat} {lo hi i : Int} (hf : rm_find M.1 pc = some (.baload, 1)) (hp : pc + 1 = pc') (hk : teR k = some (t, n, 0, lo, hi)) (ht : t = 3 ∨ t = 4) (hb : decide (-2147483648 ≤ lo ∧ hi ≤ 2147483647) = true) (ha : gK[a]? = some k) (hT : tI s) (i1 : 0 ≤ i) (i2 : i < n) (h : ∀ z, s.2 a i.toNat = z → lo ≤ z → z ≤ hi → ir gG P L ys d M (pc', lv, (0, z) :: st, s) Q) : ir gG P L ys d M (pc, lv, (0, i) :: (2, (a : Int)) :: st, s) Q := by
  have z := tI_row hT ha hk i1 i2
  have z := (tO_n (by decide)).mp z
  have hb := of_decide_eq_true hb
  obtain ⟨zz, h1, -⟩ := teR_ok hk
  exact ir_bald hf hp (by rw [gG_at ha]; exact h1) (by omega) i1 i2 rfl (by omega) (by omega) (h _ rfl z.1 z.2)
theorem ir_taa {a k t n k2 : Nat} {hi i : Int} (hf : rm_find M.1 pc = some (.aaload, 1)) (hp : pc + 1 = pc') (hk : teR k = some (t, n, 3, (k2 : Int), hi)) (ht : 5 ≤ t ∧ t < 8) (ha : gK[a]? = some k) (hT : tI s) (i1 : 0 ≤ i) (i2 : i < n) (h : ∀ b : Nat, gK[b]? = some k2 → ir gG P L ys d M (pc', lv, (2, (b : Int)) :: st, s) Q) : ir gG P L ys d M (pc, lv, (0, i) :: (2, (a : Int)) :: st, s) Q := by
  have z := tI_row hT ha hk i1 i2
  unfold tO at z
  rw [if_pos rfl] at z
  obtain ⟨m, hm⟩ := Int.eq_ofNat_of_zero_le z.1
  obtain ⟨zz, h1, -⟩ := teR_ok hk
  exact ir_aald hf hp (by rw [gG_at ha]; exact h1) ht i1 i2 hm (h m (by have z2 := z.2; rw [hm] at z2; exact z2))
theorem tI_put2 {a k t n e : Nat} {lo hi x : Int} {i : Int} (hT : tI s) (ha : gK[a]? = some k) (hk : teR k = some (t, n, e, lo, hi)) (hx : tO (e, lo, hi) x) : tI (s.1, im_up s.2 a i.toNat x) := by
  obtain ⟨z, h1, h2, h3, h4⟩ := teR_ok hk
  refine ⟨hT.1, fun b k2 hb tl hj j hl => ?_⟩
  by_cases e9 : b = a ∧ j = i.toNat
  · obtain ⟨rfl, rfl⟩ := e9
    rw [ha] at hb
    cases hb
    rw [h2] at hj
    cases hj
    right
    show tO _ (im_up s.2 b i.toNat x b i.toNat)
    rw [im_up_same]
    exact hx
  · rcases hT.2 b k2 hb tl hj j hl with h | h
    · exact Or.inl h
    · right
      show tO _ (im_up s.2 a i.toNat x b j)
      rw [im_up_ne e9]
      exact h
theorem im_up_out {f : Nat → Nat → Int} {a k j b : Nat} {x : Int} (ha : gK[a]? = some k) (hb : 582 ≤ b) : im_up f a j x b = f b := by
  funext z
  exact im_up_ne (fun h => by have := gK_lt ha; omega)
/-- an int into a row of ints or chars -/
theorem ir_tis {i9 : Instr} {a k t n : Nat} {lo hi i x : Int} (hf : rm_find M.1 pc = some (i9, 1)) (hc : rm_ck i9 = none) (ho : im_op gG M.2.2.1 M.2.1 L ys i9 1 = some (im_iast gG t)) (hp : pc + 1 = pc') (hk : teR k = some (t, n, 0, lo, hi)) (ha : gK[a]? = some k) (hT : tI s) (i1 : 0 ≤ i) (i2 : i < n) (hx : im_fit t x = true) (x1 : lo ≤ x) (x2 : x ≤ hi) (h : ∀ s', tI s' → s'.1 = s.1 → (∀ b, 582 ≤ b → s'.2 b = s.2 b) → ir gG P L ys d M (pc', lv, st, s') Q) : ir gG P L ys d M (pc, lv, (0, x) :: (0, i) :: (2, (a : Int)) :: st, s) Q := by
  obtain ⟨z, h1, h2, h3, h4⟩ := teR_ok hk
  exact ir_iast hf hc ho hp (by rw [gG_at ha]; exact h1) i1 i2 hx (h _ (tI_put2 hT ha hk ((tO_n (by decide)).mpr ⟨x1, x2⟩)) rfl (fun b hb => im_up_out ha hb))
theorem ir_tbs {a k t n : Nat} {lo hi i x : Int} (hf : rm_find M.1 pc = some (.bastore, 1)) (hp : pc + 1 = pc') (hk : teR k = some (t, n, 0, lo, hi)) (ht : t = 3 ∨ t = 4) (ha : gK[a]? = some k) (hT : tI s) (i1 : 0 ≤ i) (i2 : i < n) (hx : im_fit t x = true) (x1 : lo ≤ x) (x2 : x ≤ hi) (h : ∀ s', tI s' → s'.1 = s.1 → (∀ b, 582 ≤ b → s'.2 b = s.2 b) → ir gG P L ys d M (pc', lv, st, s') Q) : ir gG P L ys d M (pc, lv, (0, x) :: (0, i) :: (2, (a : Int)) :: st, s) Q := by
  obtain ⟨z, h1, h2, h3, h4⟩ := teR_ok hk
  exact ir_bast hf hp (by rw [gG_at ha]; exact h1) ht i1 i2 hx (h _ (tI_put2 hT ha hk ((tO_n (by decide)).mpr ⟨x1, x2⟩)) rfl (fun b hb => im_up_out ha hb))
theorem ir_tls {a k n : Nat} {lo hi i x : Int} (hf : rm_find M.1 pc = some (.lastore, 1)) (hp : pc + 1 = pc') (hk : teR k = some (1, n, 1, lo, hi)) (ha : gK[a]? = some k) (hT : tI s) (i1 : 0 ≤ i) (i2 : i < n) (x1 : lo ≤ x) (x2 : x ≤ hi) (h : ∀ s', tI s' → s'.1 = s.1 → (∀ b, 582 ≤ b → s'.2 b = s.2 b) → ir gG P L ys d M (pc', lv, st, s') Q) : ir gG P L ys d M (pc, lv, (1, x) :: (0, i) :: (2, (a : Int)) :: st, s) Q := by
  obtain ⟨z, h1, h2, h3, h4⟩ := teR_ok hk
  exact ir_last hf hp (by rw [gG_at ha]; exact h1) i1 i2 (h _ (tI_put2 hT ha hk ((tO_n (by decide)).mpr ⟨x1, x2⟩)) rfl (fun b hb => im_up_out ha hb))
theorem ir_tlen {a k t n e : Nat} {lo hi : Int} (hf : rm_find M.1 pc = some (.arraylength, 1)) (hp : pc + 1 = pc') (hk : teR k = some (t, n, e, lo, hi)) (ht : decide (t < 8) = true) (ha : gK[a]? = some k) (h : ir gG P L ys d M (pc', lv, (0, (n : Int)) :: st, s) Q) : ir gG P L ys d M (pc, lv, (2, (a : Int)) :: st, s) Q := by
  obtain ⟨z, h1, h2, h3, h4⟩ := teR_ok hk
  exact ir_alen hf hp (by rw [gG_at ha]; exact h1) (of_decide_eq_true ht) (Int32.toInt_ofNat_of_lt (by omega)) h
/-- System.arraycopy between rows of any ints -/
theorem ir_tcp {idx w1 w2 a b k1 k2 n0 n1 : Nat} {n dp sp : Int} (hf : rm_find M.1 pc = some (.invokestatic idx, 3)) (hl : rm_lk M.2.1 idx = some (3, w1, w2, 5)) (hp : pc + 3 = pc') (hk1 : teR k1 = some (0, n0, 0, -2147483648, 2147483647)) (hk2 : teR k2 = some (0, n1, 0, -2147483648, 2147483647)) (ha : gK[a]? = some k1) (hb : gK[b]? = some k2) (hT : tI s) (h1 : 0 ≤ sp) (h2 : 0 ≤ dp) (h3 : 0 ≤ n) (h4 : sp + n ≤ n0) (h5 : dp + n ≤ n1) (h6 : (st.map fun v : im_V => if v.1 = 1 then 2 else 1).sum ≤ 8) (h : ∀ s', tI s' → s'.1 = s.1 → (∀ b, 582 ≤ b → s'.2 b = s.2 b) → ir gG P L ys d M (pc', lv, st, s') Q) : ir gG P L ys d M (pc, lv, (0, n) :: (0, dp) :: (2, (b : Int)) :: (0, sp) :: (2, (a : Int)) :: st, s) Q := by
  obtain ⟨z1, g1, g2, g3, g4⟩ := teR_ok hk1
  obtain ⟨z2, f1, f2, f3, f4⟩ := teR_ok hk2
  refine ir_acopy hf hl hp (by rw [gG_at ha]; exact g1) (by rw [gG_at hb]; exact f1) h1 h2 h3 h4 h5 h6 (h _ ⟨hT.1, fun c k hc tl hj j hl => ?_⟩ rfl (fun c hc => ?_))
  · show _ ∨ tO tl (im_cp s.2 a b sp.toNat dp.toNat n.toNat c j)
    unfold im_cp
    by_cases e : c = b ∧ dp.toNat ≤ j ∧ j < dp.toNat + n.toNat
    · rw [if_pos e]
      obtain ⟨rfl, e1, e2⟩ := e
      rw [hb] at hc
      cases hc
      rw [f2] at hj
      cases hj
      right
      have z := tI_row hT ha hk1 (i := ((sp.toNat + (j - dp.toNat) : Nat) : Int)) (by omega) (by omega)
      exact z
    · rw [if_neg e]
      exact hT.2 c k hc tl hj j hl
  · show im_cp s.2 a b sp.toNat dp.toNat n.toNat c = s.2 c
    funext j
    unfold im_cp
    rw [if_neg (fun e => by have := gK_lt hb; omega)]
end IRT
