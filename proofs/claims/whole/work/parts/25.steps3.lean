/-! STEPS, whatever else the locals hold -/
def im_sub (lv' lv : List (Nat × im_V)) : Prop := ∀ (i : Nat) (v : im_V), im_get lv' i = some v → im_get lv i = some v
def im_sl : List (Nat × im_V) → List (Nat × im_V) → Prop
  | [], _ => True
  | p :: r, lv => im_get lv p.1 = some p.2 ∧ im_sl r lv
theorem im_sl_ok {lv' lv : List (Nat × im_V)} (h : im_sl lv' lv) : im_sub lv' lv := by
  induction lv' with
  | nil => intro i v e; cases e
  | cons p r ih =>
    intro i v e
    unfold im_get at e
    split at e
    · rename_i hp
      have hp : p.1 = i := by simpa using hp
      cases e
      rw [← hp]
      exact h.1
    · exact ih h.2 i v e
theorem im_sub_refl (lv : List (Nat × im_V)) : im_sub lv lv := fun _ _ h => h
theorem im_sub_trans {a b c : List (Nat × im_V)} (h1 : im_sub a b) (h2 : im_sub b c) : im_sub a c := fun i v h => h2 i v (h1 i v h)
/-- no local is told twice -/
def im_nd : List (Nat × im_V) → Bool
  | [] => true
  | p :: r => !(r.any (fun q => q.1 == p.1)) && im_nd r
theorem im_get_any {lv : List (Nat × im_V)} {j : Nat} {w : im_V} (h : im_get lv j = some w) : lv.any (fun q => q.1 == j) = true := by
  induction lv with
  | nil => cases h
  | cons p r ih =>
    rw [List.any_cons]
    by_cases hp : (p.1 == j) = true
    · rw [hp]; rfl
    · unfold im_get at h
      rw [if_neg hp] at h
      rw [ih h, Bool.or_true]
theorem im_nd_filter {lv : List (Nat × im_V)} {f : Nat × im_V → Bool} {j : Nat} {w : im_V} (hn : im_nd lv = true) (h : im_get (lv.filter f) j = some w) : im_get lv j = some w ∧ f (j, w) = true := by
  induction lv with
  | nil => cases h
  | cons p r ih =>
    unfold im_nd at hn
    simp only [Bool.and_eq_true, Bool.not_eq_true'] at hn
    by_cases hf : f p = true
    · rw [List.filter_cons_of_pos hf] at h
      by_cases hp : (p.1 == j) = true
      · unfold im_get at h ⊢
        rw [if_pos hp] at h ⊢
        have e : p.1 = j := by simpa using hp
        cases h
        refine ⟨rfl, ?_⟩
        rw [← e]
        exact hf
      · unfold im_get at h ⊢
        rw [if_neg hp] at h ⊢
        exact ih hn.2 h
    · rw [List.filter_cons_of_neg hf] at h
      obtain ⟨h1, h2⟩ := ih hn.2 h
      refine ⟨?_, h2⟩
      unfold im_get
      by_cases hp : (p.1 == j) = true
      · have e : p.1 = j := by simpa using hp
        have z := im_get_any h1
        rw [← e] at z
        rw [z] at hn
        cases hn.1
      · rw [if_neg hp]
        exact h1
theorem im_get_keep {lv : List (Nat × im_V)} {f : Nat × im_V → Bool} {j : Nat} {w : im_V} (h : im_get lv j = some w) (hf : f (j, w) = true) : im_get (lv.filter f) j = some w := by
  induction lv with
  | nil => cases h
  | cons p r ih =>
    unfold im_get at h
    by_cases hp : (p.1 == j) = true
    · rw [if_pos hp] at h
      have e : p.1 = j := by simpa using hp
      cases h
      have e2 : f p = true := by rw [← e] at hf; exact hf
      rw [List.filter_cons_of_pos e2]
      unfold im_get
      rw [if_pos hp]
    · rw [if_neg hp] at h
      by_cases hfp : f p = true
      · rw [List.filter_cons_of_pos hfp]
        unfold im_get
        rw [if_neg hp]
        exact ih h
      · rw [List.filter_cons_of_neg hfp]
        exact ih h
theorem im_sub_put1 {lv lv2 : List (Nat × im_V)} {i : Nat} {v : im_V} (hn : im_nd lv = true) (hs : im_sub lv lv2) : im_sub (im_put1 lv i v) (im_put1 lv2 i v) := by
  intro j w h
  unfold im_put1 at h ⊢
  unfold im_get at h ⊢
  by_cases hp : ((i, v).1 == j) = true
  · rw [if_pos hp] at h ⊢; exact h
  · rw [if_neg hp] at h ⊢
    obtain ⟨h1, h2⟩ := im_nd_filter hn h
    exact im_get_keep (hs j w h1) h2
theorem im_sub_put2 {lv lv2 : List (Nat × im_V)} {i : Nat} {v : im_V} (hn : im_nd lv = true) (hs : im_sub lv lv2) : im_sub (im_put2 lv i v) (im_put2 lv2 i v) := by
  intro j w h
  unfold im_put2 at h ⊢
  unfold im_get at h ⊢
  by_cases hp : ((i, v).1 == j) = true
  · rw [if_pos hp] at h ⊢; exact h
  · rw [if_neg hp] at h ⊢
    obtain ⟨h1, h2⟩ := im_nd_filter hn h
    exact im_get_keep (hs j w h1) h2
section IRW
variable {G : List im_D} {P : Nat → rm_M} {L : Nat} {ys : Nat → Int32} {d : Nat} {M : rm_M} {pc pc' : Nat} {lv lv' : List (Nat × im_V)} {st : List im_V} {s : im_S} {Q : im_Re → Prop}
def ir (G : List im_D) (P : Nat → rm_M) (L : Nat) (ys : Nat → Int32) (d : Nat) (M : rm_M) (q : im_N) (Q : im_Re → Prop) : Prop := ∀ lv2, im_sub q.2.1 lv2 → ir0 G P L ys d M (q.1, lv2, q.2.2) Q
theorem ic_start {mi : Nat} {av : List im_V} (h1 : (lg_sl (av.map im_cv)).length ≤ (P mi).2.2.1) (h2 : ir G P L ys d (P mi) (0, im_args 0 av, [], s) Q) : ic G P L ys (d + 1) mi av s Q := i0_start' h1 (h2 _ (im_sub_refl _))
/-- fewer locals are looked at from here on -/
theorem ir_w {st : List im_V} (lv' : List (Nat × im_V)) (hs : im_sl lv' lv) (h : ir G P L ys d M (pc, lv', st, s) Q) : ir G P L ys d M (pc, lv, st, s) Q := fun lv2 h2 => h lv2 (im_sub_trans (im_sl_ok hs) h2)
/-- a constant onto the stack -/
theorem ir_k {i : Instr} {n : Nat} {g : im_N → Option im_N} {v : im_V} (hf : rm_find M.1 pc = some (i, n)) (hc : rm_ck i = none) (ho : im_op G M.2.2.1 M.2.1 L ys i n = some g) (hg : ∀ lv, g (pc, lv, st, s) = some (pc', lv, v :: st, s)) (h : ir G P L ys d M (pc', lv, v :: st, s) Q) : ir G P L ys d M (pc, lv, st, s) Q := fun lv2 hs => i0_k hf hc ho (hg lv2) (h lv2 hs)
/-- any instruction that leaves the locals alone -/
theorem ir_x {i : Instr} {n : Nat} {g : im_N → Option im_N} {st' : List im_V} {s' : im_S} (hf : rm_find M.1 pc = some (i, n)) (hc : rm_ck i = none) (ho : im_op G M.2.2.1 M.2.1 L ys i n = some g) (hg : ∀ lv, g (pc, lv, st, s) = some (pc', lv, st', s')) (h : ir G P L ys d M (pc', lv, st', s') Q) : ir G P L ys d M (pc, lv, st, s) Q := fun lv2 hs => i0_op hf hc ho (hg lv2) (h lv2 hs)
/-- a local onto the stack -/
theorem ir_l {i : Instr} {n j : Nat} {f : im_V → Bool} {v : im_V} (hf : rm_find M.1 pc = some (i, n)) (hc : rm_ck i = none) (ho : im_op G M.2.2.1 M.2.1 L ys i n = some (im_loadT f n j)) (hp : pc + n = pc') (hv : im_get lv j = some v) (hfv : f v = true) (h : ir G P L ys d M (pc', lv, v :: st, s) Q) : ir G P L ys d M (pc, lv, st, s) Q := fun lv2 hs => by
  subst hp
  refine i0_k hf hc ho ?_ (h lv2 hs)
  have e : im_get lv2 j = some v := hs j v hv
  show (match im_get lv2 j with
    | some v => if f v then some (pc + n, lv2, v :: st, s) else none
    | none => none) = _
  rw [e]
  show (if f v = true then _ else _) = _
  rw [if_pos hfv]
/-- into a local of one place -/
theorem ir_s {i : Instr} {n j nL : Nat} {f : im_V → Bool} {v : im_V} (hf : rm_find M.1 pc = some (i, n)) (hc : rm_ck i = none) (ho : im_op G M.2.2.1 M.2.1 L ys i n = some (im_store1 f nL n j)) (hp : pc + n = pc') (hfv : (f v && decide (j < nL)) = true) (hn : im_nd lv = true) (h : ir G P L ys d M (pc', im_put1 lv j v, st, s) Q) : ir G P L ys d M (pc, lv, v :: st, s) Q := fun lv2 hs => by
  subst hp
  refine i0_s hf hc ho ?_ (h (im_put1 lv2 j v) (im_sub_put1 hn hs))
  show (if (f v && decide (j < nL)) = true then some (pc + n, im_put1 lv2 j v, st, s) else none) = _
  rw [if_pos hfv]
/-- into a local of two -/
theorem ir_s2 {i : Instr} {n j nL : Nat} {x : Int} (hf : rm_find M.1 pc = some (i, n)) (hc : rm_ck i = none) (ho : im_op G M.2.2.1 M.2.1 L ys i n = some (im_store2 nL n j)) (hp : pc + n = pc') (hj : decide (j + 1 < nL) = true) (hn : im_nd lv = true) (h : ir G P L ys d M (pc', im_put2 lv j (1, x), st, s) Q) : ir G P L ys d M (pc, lv, (1, x) :: st, s) Q := fun lv2 hs => by
  subst hp
  refine i0_s hf hc ho ?_ (h (im_put2 lv2 j (1, x)) (im_sub_put2 hn hs))
  show (if j + 1 < nL then some (pc + n, im_put2 lv2 j (1, x), st, s) else none) = _
  rw [if_pos (of_decide_eq_true hj)]
theorem ir_inc {j : Nat} {k x : Int} (hf : rm_find M.1 pc = some (.iinc j k, 3)) (hp : pc + 3 = pc') (hg : im_get lv j = some (0, x)) (hn : decide (j < M.2.2.1) = true) (hd : im_nd lv = true) (h1 : -2147483648 ≤ x + k) (h2 : x + k ≤ 2147483647) (h : ir G P L ys d M (pc', im_put1 lv j (0, x + k), st, s) Q) : ir G P L ys d M (pc, lv, st, s) Q := fun lv2 hs => i0_inc hf hp (hs j _ hg) hn h1 h2 (h _ (im_sub_put1 hd hs))
theorem ir_ii {i : Instr} {f : Int32 → Int32 → Int32} {x y z : Int} (hf : rm_find M.1 pc = some (i, 1)) (hc : rm_ck i = none) (ho : im_op G M.2.2.1 M.2.1 L ys i 1 = some (im_ii f)) (hp : pc + 1 = pc') (hz : (f (Int32.ofInt x) (Int32.ofInt y)).toInt = z) (h : ir G P L ys d M (pc', lv, (0, z) :: st, s) Q) : ir G P L ys d M (pc, lv, (0, y) :: (0, x) :: st, s) Q := fun lv2 hs2 => i0_ii hf hc ho hp hz (h lv2 hs2)
theorem ir_iiA {i : Instr} {f : Int32 → Int32 → Int32} {x y : Int} (hf : rm_find M.1 pc = some (i, 1)) (hc : rm_ck i = none) (ho : im_op G M.2.2.1 M.2.1 L ys i 1 = some (im_ii f)) (hp : pc + 1 = pc') (h : ∀ z : Int, -2147483648 ≤ z → z ≤ 2147483647 → ir G P L ys d M (pc', lv, (0, z) :: st, s) Q) : ir G P L ys d M (pc, lv, (0, y) :: (0, x) :: st, s) Q := fun lv2 hs2 => i0_iiA hf hc ho hp (fun z h09 h19 => h z h09 h19 lv2 hs2)
theorem ir_add {x y : Int} (hf : rm_find M.1 pc = some (.iadd, 1)) (hp : pc + 1 = pc') (h1 : -2147483648 ≤ x + y) (h2 : x + y ≤ 2147483647) (h : ir G P L ys d M (pc', lv, (0, x + y) :: st, s) Q) : ir G P L ys d M (pc, lv, (0, y) :: (0, x) :: st, s) Q := fun lv2 hs2 => i0_add hf hp h1 h2 (h lv2 hs2)
theorem ir_sub {x y : Int} (hf : rm_find M.1 pc = some (.isub, 1)) (hp : pc + 1 = pc') (h1 : -2147483648 ≤ x - y) (h2 : x - y ≤ 2147483647) (h : ir G P L ys d M (pc', lv, (0, x - y) :: st, s) Q) : ir G P L ys d M (pc, lv, (0, y) :: (0, x) :: st, s) Q := fun lv2 hs2 => i0_sub hf hp h1 h2 (h lv2 hs2)
theorem ir_mul {x y : Int} (hf : rm_find M.1 pc = some (.imul, 1)) (hp : pc + 1 = pc') (h1 : -2147483648 ≤ x * y) (h2 : x * y ≤ 2147483647) (h : ir G P L ys d M (pc', lv, (0, x * y) :: st, s) Q) : ir G P L ys d M (pc, lv, (0, y) :: (0, x) :: st, s) Q := fun lv2 hs2 => i0_mul hf hp h1 h2 (h lv2 hs2)
theorem ir_iz {i : Instr} {f : Int32 → Int32 → Int32} {x y z : Int} (hf : rm_find M.1 pc = some (i, 1)) (hc : rm_ck i = none) (ho : im_op G M.2.2.1 M.2.1 L ys i 1 = some (im_iiz f)) (hp : pc + 1 = pc') (hy : y ≠ 0) (hz : (f (Int32.ofInt x) (Int32.ofInt y)).toInt = z) (h : ir G P L ys d M (pc', lv, (0, z) :: st, s) Q) : ir G P L ys d M (pc, lv, (0, y) :: (0, x) :: st, s) Q := fun lv2 hs2 => i0_iz hf hc ho hp hy hz (h lv2 hs2)
theorem ir_div {x y : Int} (hf : rm_find M.1 pc = some (.idiv, 1)) (hp : pc + 1 = pc') (hx1 : -2147483648 ≤ x) (hx2 : x ≤ 2147483647) (hy : 0 < y) (hy2 : y ≤ 2147483647) (h : ir G P L ys d M (pc', lv, (0, x.tdiv y) :: st, s) Q) : ir G P L ys d M (pc, lv, (0, y) :: (0, x) :: st, s) Q := fun lv2 hs2 => i0_div hf hp hx1 hx2 hy hy2 (h lv2 hs2)
theorem ir_rem {x y : Int} (hf : rm_find M.1 pc = some (.irem, 1)) (hp : pc + 1 = pc') (hx1 : -2147483648 ≤ x) (hx2 : x ≤ 2147483647) (hy : 0 < y) (hy2 : y ≤ 2147483647) (h : ir G P L ys d M (pc', lv, (0, x.tmod y) :: st, s) Q) : ir G P L ys d M (pc, lv, (0, y) :: (0, x) :: st, s) Q := fun lv2 hs2 => i0_rem hf hp hx1 hx2 hy hy2 (h lv2 hs2)
theorem ir_jj {i : Instr} {f : Int64 → Int64 → Int64} {x y z : Int} (hf : rm_find M.1 pc = some (i, 1)) (hc : rm_ck i = none) (ho : im_op G M.2.2.1 M.2.1 L ys i 1 = some (im_jj f)) (hp : pc + 1 = pc') (hz : (f (Int64.ofInt x) (Int64.ofInt y)).toInt = z) (h : ir G P L ys d M (pc', lv, (1, z) :: st, s) Q) : ir G P L ys d M (pc, lv, (1, y) :: (1, x) :: st, s) Q := fun lv2 hs2 => i0_jj hf hc ho hp hz (h lv2 hs2)
theorem ir_jjA {i : Instr} {f : Int64 → Int64 → Int64} {x y : Int} (hf : rm_find M.1 pc = some (i, 1)) (hc : rm_ck i = none) (ho : im_op G M.2.2.1 M.2.1 L ys i 1 = some (im_jj f)) (hp : pc + 1 = pc') (h : ∀ z : Int, -9223372036854775808 ≤ z → z ≤ 9223372036854775807 → ir G P L ys d M (pc', lv, (1, z) :: st, s) Q) : ir G P L ys d M (pc, lv, (1, y) :: (1, x) :: st, s) Q := fun lv2 hs2 => i0_jjA hf hc ho hp (fun z h09 h19 => h z h09 h19 lv2 hs2)
theorem ir_ladd {x y : Int} (hf : rm_find M.1 pc = some (.ladd, 1)) (hp : pc + 1 = pc') (h1 : -9223372036854775808 ≤ x + y) (h2 : x + y ≤ 9223372036854775807) (h : ir G P L ys d M (pc', lv, (1, x + y) :: st, s) Q) : ir G P L ys d M (pc, lv, (1, y) :: (1, x) :: st, s) Q := fun lv2 hs2 => i0_ladd hf hp h1 h2 (h lv2 hs2)
theorem ir_lsub {x y : Int} (hf : rm_find M.1 pc = some (.lsub, 1)) (hp : pc + 1 = pc') (h1 : -9223372036854775808 ≤ x - y) (h2 : x - y ≤ 9223372036854775807) (h : ir G P L ys d M (pc', lv, (1, x - y) :: st, s) Q) : ir G P L ys d M (pc, lv, (1, y) :: (1, x) :: st, s) Q := fun lv2 hs2 => i0_lsub hf hp h1 h2 (h lv2 hs2)
theorem ir_lmul {x y : Int} (hf : rm_find M.1 pc = some (.lmul, 1)) (hp : pc + 1 = pc') (h1 : -9223372036854775808 ≤ x * y) (h2 : x * y ≤ 9223372036854775807) (h : ir G P L ys d M (pc', lv, (1, x * y) :: st, s) Q) : ir G P L ys d M (pc, lv, (1, y) :: (1, x) :: st, s) Q := fun lv2 hs2 => i0_lmul hf hp h1 h2 (h lv2 hs2)
theorem ir_jz {i : Instr} {f : Int64 → Int64 → Int64} {x y z : Int} (hf : rm_find M.1 pc = some (i, 1)) (hc : rm_ck i = none) (ho : im_op G M.2.2.1 M.2.1 L ys i 1 = some (im_jjz f)) (hp : pc + 1 = pc') (hy : y ≠ 0) (hz : (f (Int64.ofInt x) (Int64.ofInt y)).toInt = z) (h : ir G P L ys d M (pc', lv, (1, z) :: st, s) Q) : ir G P L ys d M (pc, lv, (1, y) :: (1, x) :: st, s) Q := fun lv2 hs2 => i0_jz hf hc ho hp hy hz (h lv2 hs2)
theorem ir_jzA {i : Instr} {f : Int64 → Int64 → Int64} {x y : Int} (hf : rm_find M.1 pc = some (i, 1)) (hc : rm_ck i = none) (ho : im_op G M.2.2.1 M.2.1 L ys i 1 = some (im_jjz f)) (hp : pc + 1 = pc') (hy : y ≠ 0) (h : ∀ z : Int, -9223372036854775808 ≤ z → z ≤ 9223372036854775807 → ir G P L ys d M (pc', lv, (1, z) :: st, s) Q) : ir G P L ys d M (pc, lv, (1, y) :: (1, x) :: st, s) Q := fun lv2 hs2 => i0_jzA hf hc ho hp hy (fun z h09 h19 => h z h09 h19 lv2 hs2)
theorem ir_ldiv {x y : Int} (hf : rm_find M.1 pc = some (.ldiv, 1)) (hp : pc + 1 = pc') (hx1 : -9223372036854775808 ≤ x) (hx2 : x ≤ 9223372036854775807) (hy : 0 < y) (hy2 : y ≤ 9223372036854775807) (h : ir G P L ys d M (pc', lv, (1, x.tdiv y) :: st, s) Q) : ir G P L ys d M (pc, lv, (1, y) :: (1, x) :: st, s) Q := fun lv2 hs2 => i0_ldiv hf hp hx1 hx2 hy hy2 (h lv2 hs2)
theorem ir_lrem {x y : Int} (hf : rm_find M.1 pc = some (.lrem, 1)) (hp : pc + 1 = pc') (hx1 : -9223372036854775808 ≤ x) (hx2 : x ≤ 9223372036854775807) (hy : 0 < y) (hy2 : y ≤ 9223372036854775807) (h : ir G P L ys d M (pc', lv, (1, x.tmod y) :: st, s) Q) : ir G P L ys d M (pc, lv, (1, y) :: (1, x) :: st, s) Q := fun lv2 hs2 => i0_lrem hf hp hx1 hx2 hy hy2 (h lv2 hs2)
theorem ir_jij {i : Instr} {f : Int64 → Int32 → Int64} {x y z : Int} (hf : rm_find M.1 pc = some (i, 1)) (hc : rm_ck i = none) (ho : im_op G M.2.2.1 M.2.1 L ys i 1 = some (im_jij f)) (hp : pc + 1 = pc') (hz : (f (Int64.ofInt x) (Int32.ofInt y)).toInt = z) (h : ir G P L ys d M (pc', lv, (1, z) :: st, s) Q) : ir G P L ys d M (pc, lv, (0, y) :: (1, x) :: st, s) Q := fun lv2 hs2 => i0_jij hf hc ho hp hz (h lv2 hs2)
theorem ir_jijA {i : Instr} {f : Int64 → Int32 → Int64} {x y : Int} (hf : rm_find M.1 pc = some (i, 1)) (hc : rm_ck i = none) (ho : im_op G M.2.2.1 M.2.1 L ys i 1 = some (im_jij f)) (hp : pc + 1 = pc') (h : ∀ z : Int, -9223372036854775808 ≤ z → z ≤ 9223372036854775807 → ir G P L ys d M (pc', lv, (1, z) :: st, s) Q) : ir G P L ys d M (pc, lv, (0, y) :: (1, x) :: st, s) Q := fun lv2 hs2 => i0_jijA hf hc ho hp (fun z h09 h19 => h z h09 h19 lv2 hs2)
theorem ir_i2l {x : Int} (hf : rm_find M.1 pc = some (.i2l, 1)) (hp : pc + 1 = pc') (h1 : -2147483648 ≤ x) (h2 : x ≤ 2147483647) (h : ir G P L ys d M (pc', lv, (1, x) :: st, s) Q) : ir G P L ys d M (pc, lv, (0, x) :: st, s) Q := fun lv2 hs2 => i0_i2l hf hp h1 h2 (h lv2 hs2)
theorem ir_i1A {i : Instr} {f : Int32 → Int32} {x : Int} (hf : rm_find M.1 pc = some (i, 1)) (hc : rm_ck i = none) (ho : im_op G M.2.2.1 M.2.1 L ys i 1 = some (im_i1 (fun x => .int (f x)))) (hp : pc + 1 = pc') (h : ∀ z : Int, z = (f (Int32.ofInt x)).toInt → -2147483648 ≤ z → z ≤ 2147483647 → ir G P L ys d M (pc', lv, (0, z) :: st, s) Q) : ir G P L ys d M (pc, lv, (0, x) :: st, s) Q := fun lv2 hs2 => i0_i1A hf hc ho hp (fun z h09 h19 h29 => h z h09 h19 h29 lv2 hs2)
theorem ir_j1A {i : Instr} {f : Int64 → Int32} {x : Int} (hf : rm_find M.1 pc = some (i, 1)) (hc : rm_ck i = none) (ho : im_op G M.2.2.1 M.2.1 L ys i 1 = some (im_j1 (fun x => .int (f x)))) (hp : pc + 1 = pc') (h : ∀ z : Int, z = (f (Int64.ofInt x)).toInt → -2147483648 ≤ z → z ≤ 2147483647 → ir G P L ys d M (pc', lv, (0, z) :: st, s) Q) : ir G P L ys d M (pc, lv, (1, x) :: st, s) Q := fun lv2 hs2 => i0_j1A hf hc ho hp (fun z h09 h19 h29 => h z h09 h19 h29 lv2 hs2)
theorem ir_l2i {x : Int} (hf : rm_find M.1 pc = some (.l2i, 1)) (hp : pc + 1 = pc') (h1 : -2147483648 ≤ x) (h2 : x ≤ 2147483647) (h : ir G P L ys d M (pc', lv, (0, x) :: st, s) Q) : ir G P L ys d M (pc, lv, (1, x) :: st, s) Q := fun lv2 hs2 => i0_l2i hf hp h1 h2 (h lv2 hs2)
theorem ir_ineg {x : Int} (hf : rm_find M.1 pc = some (.ineg, 1)) (hp : pc + 1 = pc') (h1 : -2147483647 ≤ x) (h2 : x ≤ 2147483647) (h : ir G P L ys d M (pc', lv, (0, -x) :: st, s) Q) : ir G P L ys d M (pc, lv, (0, x) :: st, s) Q := fun lv2 hs2 => i0_ineg hf hp h1 h2 (h lv2 hs2)
theorem ir_lneg {x : Int} (hf : rm_find M.1 pc = some (.lneg, 1)) (hp : pc + 1 = pc') (h1 : -9223372036854775807 ≤ x) (h2 : x ≤ 9223372036854775807) (h : ir G P L ys d M (pc', lv, (1, -x) :: st, s) Q) : ir G P L ys d M (pc, lv, (1, x) :: st, s) Q := fun lv2 hs2 => i0_lneg hf hp h1 h2 (h lv2 hs2)
theorem ir_lnegA {x : Int} (hf : rm_find M.1 pc = some (.lneg, 1)) (hp : pc + 1 = pc') (h : ∀ z : Int, -9223372036854775808 ≤ z → z ≤ 9223372036854775807 → ir G P L ys d M (pc', lv, (1, z) :: st, s) Q) : ir G P L ys d M (pc, lv, (1, x) :: st, s) Q := fun lv2 hs2 => i0_lnegA hf hp (fun z h09 h19 => h z h09 h19 lv2 hs2)
theorem ir_lcmp {x y : Int} (hf : rm_find M.1 pc = some (.lcmp, 1)) (hp : pc + 1 = pc') (hx1 : -9223372036854775808 ≤ x) (hx2 : x ≤ 9223372036854775807) (hy1 : -9223372036854775808 ≤ y) (hy2 : y ≤ 9223372036854775807) (h : ∀ z : Int, ((x < y ∧ z = -1) ∨ (x = y ∧ z = 0) ∨ (y < x ∧ z = 1)) → ir G P L ys d M (pc', lv, (0, z) :: st, s) Q) : ir G P L ys d M (pc, lv, (1, y) :: (1, x) :: st, s) Q := fun lv2 hs2 => i0_lcmp hf hp hx1 hx2 hy1 hy2 (fun z h09 => h z h09 lv2 hs2)
theorem ir_goto {off : Int} (hf : rm_find M.1 pc = some (.goto off, 3)) (ht : rm_tgt pc off = some pc') (h : ir G P L ys d M (pc', lv, st, s) Q) : ir G P L ys d M (pc, lv, st, s) Q := fun lv2 hs2 => i0_goto hf ht (h lv2 hs2)
theorem ir_if1 {cd : ClassFile.Cond} {off x : Int} {pt : Nat} (hf : rm_find M.1 pc = some (.ifCond cd off, 3)) (ht : rm_tgt pc off = some pt) (hp : pc + 3 = pc') (h1 : im_cnd cd x 0 = true → ir G P L ys d M (pt, lv, st, s) Q) (h2 : im_cnd cd x 0 = false → ir G P L ys d M (pc', lv, st, s) Q) : ir G P L ys d M (pc, lv, (0, x) :: st, s) Q := fun lv2 hs2 => i0_if1 hf ht hp (fun z9 => h1 z9 lv2 hs2) (fun z9 => h2 z9 lv2 hs2)
theorem ir_if2 {cd : ClassFile.Cond} {off x y : Int} {pt : Nat} (hf : rm_find M.1 pc = some (.if_icmp cd off, 3)) (ht : rm_tgt pc off = some pt) (hp : pc + 3 = pc') (h1 : im_cnd cd x y = true → ir G P L ys d M (pt, lv, st, s) Q) (h2 : im_cnd cd x y = false → ir G P L ys d M (pc', lv, st, s) Q) : ir G P L ys d M (pc, lv, (0, y) :: (0, x) :: st, s) Q := fun lv2 hs2 => i0_if2 hf ht hp (fun z9 => h1 z9 lv2 hs2) (fun z9 => h2 z9 lv2 hs2)
theorem ir_getI {idx ci f w t a : Nat} {tys : List Nat} {z : Int} (hf : rm_find M.1 pc = some (.getfield idx, 3)) (hl : rm_lk M.2.1 idx = some (0, ci, f, w)) (hp : pc + 3 = pc') (hG : G[a]? = some (0, ci, tys)) (ht : tys[f]? = some t) (h1 : t ≠ 1) (h3 : t ≠ 3) (hz : s.1 a f = z) (b1 : -2147483648 ≤ z) (b2 : z ≤ 2147483647) (h : ir G P L ys d M (pc', lv, (0, z) :: st, s) Q) : ir G P L ys d M (pc, lv, (2, (a : Int)) :: st, s) Q := fun lv2 hs2 => i0_getI hf hl hp hG ht h1 h3 hz b1 b2 (h lv2 hs2)
theorem ir_getJ {idx ci f w a : Nat} {tys : List Nat} {z : Int} (hf : rm_find M.1 pc = some (.getfield idx, 3)) (hl : rm_lk M.2.1 idx = some (0, ci, f, w)) (hp : pc + 3 = pc') (hG : G[a]? = some (0, ci, tys)) (ht : tys[f]? = some 1) (hz : s.1 a f = z) (b1 : -9223372036854775808 ≤ z) (b2 : z ≤ 9223372036854775807) (h : ir G P L ys d M (pc', lv, (1, z) :: st, s) Q) : ir G P L ys d M (pc, lv, (2, (a : Int)) :: st, s) Q := fun lv2 hs2 => i0_getJ hf hl hp hG ht hz b1 b2 (h lv2 hs2)
theorem ir_getR {idx ci f w a b : Nat} {tys : List Nat} (hf : rm_find M.1 pc = some (.getfield idx, 3)) (hl : rm_lk M.2.1 idx = some (0, ci, f, w)) (hp : pc + 3 = pc') (hG : G[a]? = some (0, ci, tys)) (ht : tys[f]? = some 3) (hz : s.1 a f = (b : Int)) (h : ir G P L ys d M (pc', lv, (2, (b : Int)) :: st, s) Q) : ir G P L ys d M (pc, lv, (2, (a : Int)) :: st, s) Q := fun lv2 hs2 => i0_getR hf hl hp hG ht hz (h lv2 hs2)
theorem ir_put {idx ci f t a w : Nat} {tys : List Nat} {v : im_V} (hf : rm_find M.1 pc = some (.putfield idx, 3)) (hl : rm_lk M.2.1 idx = some (0, ci, f, w)) (hp : pc + 3 = pc') (hG : G[a]? = some (0, ci, tys)) (ht : tys[f]? = some t) (h1 : rm_fit (rm_ft ci f) (im_cv v) = true) (h2 : rm_fin ci f = false) (h3 : im_tg t v = true) (h : ir G P L ys d M (pc', lv, st, im_up s.1 a f v.2, s.2) Q) : ir G P L ys d M (pc, lv, v :: (2, (a : Int)) :: st, s) Q := fun lv2 hs2 => i0_put hf hl hp hG ht h1 h2 h3 (h lv2 hs2)
theorem ir_iald {a n : Nat} {zs : List Nat} {i z : Int} (hf : rm_find M.1 pc = some (.iaload, 1)) (hp : pc + 1 = pc') (hG : G[a]? = some (1, n, zs)) (i1 : 0 ≤ i) (i2 : i < n) (hz : s.2 a i.toNat = z) (b1 : -2147483648 ≤ z) (b2 : z ≤ 2147483647) (h : ir G P L ys d M (pc', lv, (0, z) :: st, s) Q) : ir G P L ys d M (pc, lv, (0, i) :: (2, (a : Int)) :: st, s) Q := fun lv2 hs2 => i0_iald hf hp hG i1 i2 hz b1 b2 (h lv2 hs2)
theorem ir_lald {a n : Nat} {zs : List Nat} {i z : Int} (hf : rm_find M.1 pc = some (.laload, 1)) (hp : pc + 1 = pc') (hG : G[a]? = some (2, n, zs)) (i1 : 0 ≤ i) (i2 : i < n) (hz : s.2 a i.toNat = z) (b1 : -9223372036854775808 ≤ z) (b2 : z ≤ 9223372036854775807) (h : ir G P L ys d M (pc', lv, (1, z) :: st, s) Q) : ir G P L ys d M (pc, lv, (0, i) :: (2, (a : Int)) :: st, s) Q := fun lv2 hs2 => i0_lald hf hp hG i1 i2 hz b1 b2 (h lv2 hs2)
theorem ir_cald {a n : Nat} {zs : List Nat} {i z : Int} (hf : rm_find M.1 pc = some (.caload, 1)) (hp : pc + 1 = pc') (hG : G[a]? = some (3, n, zs)) (i1 : 0 ≤ i) (i2 : i < n) (hz : s.2 a i.toNat = z) (b1 : -2147483648 ≤ z) (b2 : z ≤ 2147483647) (h : ir G P L ys d M (pc', lv, (0, z) :: st, s) Q) : ir G P L ys d M (pc, lv, (0, i) :: (2, (a : Int)) :: st, s) Q := fun lv2 hs2 => i0_cald hf hp hG i1 i2 hz b1 b2 (h lv2 hs2)
theorem ir_bald {a t n : Nat} {zs : List Nat} {i z : Int} (hf : rm_find M.1 pc = some (.baload, 1)) (hp : pc + 1 = pc') (hG : G[a]? = some (t, n, zs)) (ht : t = 4 ∨ t = 5) (i1 : 0 ≤ i) (i2 : i < n) (hz : s.2 a i.toNat = z) (b1 : -2147483648 ≤ z) (b2 : z ≤ 2147483647) (h : ir G P L ys d M (pc', lv, (0, z) :: st, s) Q) : ir G P L ys d M (pc, lv, (0, i) :: (2, (a : Int)) :: st, s) Q := fun lv2 hs2 => i0_bald hf hp hG ht i1 i2 hz b1 b2 (h lv2 hs2)
theorem ir_aald {a b t n : Nat} {zs : List Nat} {i : Int} (hf : rm_find M.1 pc = some (.aaload, 1)) (hp : pc + 1 = pc') (hG : G[a]? = some (t + 1, n, zs)) (ht : 5 ≤ t ∧ t < 8) (i1 : 0 ≤ i) (i2 : i < n) (hz : s.2 a i.toNat = (b : Int)) (h : ir G P L ys d M (pc', lv, (2, (b : Int)) :: st, s) Q) : ir G P L ys d M (pc, lv, (0, i) :: (2, (a : Int)) :: st, s) Q := fun lv2 hs2 => i0_aald hf hp hG ht i1 i2 hz (h lv2 hs2)
theorem ir_iast {i9 : Instr} {a t n : Nat} {zs : List Nat} {i x : Int} (hf : rm_find M.1 pc = some (i9, 1)) (hc : rm_ck i9 = none) (ho : im_op G M.2.2.1 M.2.1 L ys i9 1 = some (im_iast G t)) (hp : pc + 1 = pc') (hG : G[a]? = some (t + 1, n, zs)) (i1 : 0 ≤ i) (i2 : i < n) (hx : im_fit t x = true) (h : ir G P L ys d M (pc', lv, st, s.1, im_up s.2 a i.toNat x) Q) : ir G P L ys d M (pc, lv, (0, x) :: (0, i) :: (2, (a : Int)) :: st, s) Q := fun lv2 hs2 => i0_iast hf hc ho hp hG i1 i2 hx (h lv2 hs2)
theorem ir_bast {a t n : Nat} {zs : List Nat} {i x : Int} (hf : rm_find M.1 pc = some (.bastore, 1)) (hp : pc + 1 = pc') (hG : G[a]? = some (t + 1, n, zs)) (ht : t = 3 ∨ t = 4) (i1 : 0 ≤ i) (i2 : i < n) (hx : im_fit t x = true) (h : ir G P L ys d M (pc', lv, st, s.1, im_up s.2 a i.toNat x) Q) : ir G P L ys d M (pc, lv, (0, x) :: (0, i) :: (2, (a : Int)) :: st, s) Q := fun lv2 hs2 => i0_bast hf hp hG ht i1 i2 hx (h lv2 hs2)
theorem ir_last {a n : Nat} {zs : List Nat} {i x : Int} (hf : rm_find M.1 pc = some (.lastore, 1)) (hp : pc + 1 = pc') (hG : G[a]? = some (2, n, zs)) (i1 : 0 ≤ i) (i2 : i < n) (h : ir G P L ys d M (pc', lv, st, s.1, im_up s.2 a i.toNat x) Q) : ir G P L ys d M (pc, lv, (1, x) :: (0, i) :: (2, (a : Int)) :: st, s) Q := fun lv2 hs2 => i0_last hf hp hG i1 i2 (h lv2 hs2)
theorem ir_alen {a t n : Nat} {zs : List Nat} {z : Int} (hf : rm_find M.1 pc = some (.arraylength, 1)) (hp : pc + 1 = pc') (hG : G[a]? = some (t + 1, n, zs)) (ht : t < 8) (hz : (Int32.ofNat n).toInt = z) (h : ir G P L ys d M (pc', lv, (0, z) :: st, s) Q) : ir G P L ys d M (pc, lv, (2, (a : Int)) :: st, s) Q := fun lv2 hs2 => i0_alen hf hp hG ht hz (h lv2 hs2)
theorem ir_acopy {idx w1 w2 a b n0 n1 : Nat} {z0 z1 : List Nat} {n dp sp : Int} (hf : rm_find M.1 pc = some (.invokestatic idx, 3)) (hl : rm_lk M.2.1 idx = some (3, w1, w2, 5)) (hp : pc + 3 = pc') (hG0 : G[a]? = some (1, n0, z0)) (hG1 : G[b]? = some (1, n1, z1)) (h1 : 0 ≤ sp) (h2 : 0 ≤ dp) (h3 : 0 ≤ n) (h4 : sp + n ≤ n0) (h5 : dp + n ≤ n1) (h6 : (st.map fun v : im_V => if v.1 = 1 then 2 else 1).sum ≤ 8) (h : ir G P L ys d M (pc', lv, st, s.1, im_cp s.2 a b sp.toNat dp.toNat n.toNat) Q) : ir G P L ys d M (pc, lv, (0, n) :: (0, dp) :: (2, (b : Int)) :: (0, sp) :: (2, (a : Int)) :: st, s) Q := fun lv2 hs2 => i0_acopy hf hl hp hG0 hG1 h1 h2 h3 h4 h5 h6 (h lv2 hs2)
theorem ir_callS {idx mi na : Nat} {av rest st0 : List im_V} {Q1 : im_Re → Prop} (hf : rm_find M.1 pc = some (.invokestatic idx, 3)) (hl : rm_lk M.2.1 idx = some (3, mi, na, 0)) (hp : pc + 3 = pc') (e1 : st0.drop na = rest) (e2 : (st0.take na).reverse = av) (hn : decide (na ≤ st0.length) = true) (hs : im_cs rest ≤ 8) (hc : ic G P L ys d mi av s Q1) (h : ∀ res, Q1 res → ir G P L ys d M (pc', lv, res.1.toList ++ rest, res.2) Q) : ir G P L ys d M (pc, lv, st0, s) Q := fun lv2 hs2 => i0_callS hf hl hp e1 e2 hn hs hc (fun res h09 => h res h09 lv2 hs2)
theorem ir_callV {idx mi na oc a : Nat} {av rest st0 : List im_V} {tys : List Nat} {Q1 : im_Re → Prop} (hf : rm_find M.1 pc = some (.invokevirtual idx, 3)) (hl : rm_lk M.2.1 idx = some (3, mi, na, 1)) (hp : pc + 3 = pc') (e1 : st0.drop na = (2, (a : Int)) :: rest) (e2 : (st0.take na).reverse = av) (hs : im_cs rest ≤ 8) (ho : (P mi).2.2.2.2.2 = oc) (hG : G[a]? = some (0, oc, tys)) (hc : ic G P L ys d mi ((2, (a : Int)) :: av) s Q1) (h : ∀ res, Q1 res → ir G P L ys d M (pc', lv, res.1.toList ++ rest, res.2) Q) : ir G P L ys d M (pc, lv, st0, s) Q := fun lv2 hs2 => i0_callV hf hl hp e1 e2 hs ho hG hc (fun res h09 => h res h09 lv2 hs2)
theorem ir_callF {idx mi na : Nat} {n : Int} {av rest st0 : List im_V} {Q1 : im_Re → Prop} (hf : rm_find M.1 pc = some (.invokevirtual idx, 3)) (hl : rm_lk M.2.1 idx = some (3, mi, na, 4)) (hp : pc + 3 = pc') (e1 : st0.drop na = (4, n) :: rest) (e2 : (st0.take na).reverse = av) (hs : im_cs rest ≤ 8) (hn : n = 2 ∨ n = 4) (hc : ic G P L ys d mi ((4, n) :: av) s Q1) (h : ∀ res, Q1 res → ir G P L ys d M (pc', lv, res.1.toList ++ rest, res.2) Q) : ir G P L ys d M (pc, lv, st0, s) Q := fun lv2 hs2 => i0_callF hf hl hp e1 e2 hs hn hc (fun res h09 => h res h09 lv2 hs2)
theorem ir_vret (hf : rm_find M.1 pc = some (.return_, 1)) (hr : M.2.2.2.1 = 0) (h : Q (none, s)) : ir G P L ys d M (pc, lv, [], s) Q := fun lv2 hs2 => i0_vret hf hr h
theorem ir_iret {x : Int} (hf : rm_find M.1 pc = some (.ireturn, 1)) (hr : M.2.2.2.1 = 1) (h : Q (some (0, x), s)) : ir G P L ys d M (pc, lv, [(0, x)], s) Q := fun lv2 hs2 => i0_iret hf hr h
theorem ir_zret {x : Int} (hf : rm_find M.1 pc = some (.ireturn, 1)) (hr : M.2.2.2.1 = 2) (hx : x = 0 ∨ x = 1) (h : Q (some (0, x), s)) : ir G P L ys d M (pc, lv, [(0, x)], s) Q := fun lv2 hs2 => i0_zret hf hr hx h
theorem ir_lret {x : Int} (hf : rm_find M.1 pc = some (.lreturn, 1)) (hr : M.2.2.2.1 = 3) (h : Q (some (1, x), s)) : ir G P L ys d M (pc, lv, [(1, x)], s) Q := fun lv2 hs2 => i0_lret hf hr h
theorem ir_aret {a : Int} (hf : rm_find M.1 pc = some (.areturn, 1)) (hr : M.2.2.2.1 = 4) (h : Q (some (2, a), s)) : ir G P L ys d M (pc, lv, [(2, a)], s) Q := fun lv2 hs2 => i0_aret hf hr h
end IRW
