/-! STEPS: from a state the method comes to its end with Q -/
section IRS
variable {G : List im_D} {P : Nat → rm_M} {L : Nat} {ys : Nat → Int32} {d : Nat} {M : rm_M} {pc pc' : Nat} {lv lv' : List (Nat × im_V)} {st : List im_V} {s : im_S} {Q : im_Re → Prop}
def ir0 (G : List im_D) (P : Nat → rm_M) (L : Nat) (ys : Nat → Int32) (d : Nat) (M : rm_M) (q : im_N) (Q : im_Re → Prop) : Prop := ∃ f res, im_loop G (im_call G P L ys d) P M L ys f q res ∧ Q res
def ic (G : List im_D) (P : Nat → rm_M) (L : Nat) (ys : Nat → Int32) (d mi : Nat) (av : List im_V) (s : im_S) (Q : im_Re → Prop) : Prop := ∃ res, im_call G P L ys d mi av s res ∧ Q res
theorem i0_start' {mi : Nat} {av : List im_V} (h1 : (lg_sl (av.map im_cv)).length ≤ (P mi).2.2.1) (h2 : ir0 G P L ys d (P mi) (0, im_args 0 av, [], s) Q) : ic G P L ys (d + 1) mi av s Q := by
  obtain ⟨f, res, h3, h4⟩ := h2
  exact ⟨res, ⟨h1, f, h3⟩, h4⟩
theorem ic_imp {mi : Nat} {av : List im_V} {Q' : im_Re → Prop} (h : ic G P L ys d mi av s Q) (h2 : ∀ r, Q r → Q' r) : ic G P L ys d mi av s Q' := by
  obtain ⟨r, h3, h4⟩ := h
  exact ⟨r, h3, h2 r h4⟩
theorem i0_one {i : Instr} {n : Nat} {q r : im_N} (hf : rm_find M.1 q.1 = some (i, n)) (h1 : im_one G (im_call G P L ys d) P M L ys i n q r) (h : ir0 G P L ys d M r Q) : ir0 G P L ys d M q Q := by
  obtain ⟨f, res, h3, h4⟩ := h
  exact ⟨f + 1, res, ⟨i, n, hf, Or.inr ⟨r, h1, h3⟩⟩, h4⟩
theorem i0_op {i : Instr} {n : Nat} {q r : im_N} {g : im_N → Option im_N} (hf : rm_find M.1 q.1 = some (i, n)) (hc : rm_ck i = none) (ho : im_op G M.2.2.1 M.2.1 L ys i n = some g) (hg : g q = some r) (h : ir0 G P L ys d M r Q) : ir0 G P L ys d M q Q := by
  refine i0_one hf ?_ h
  unfold im_one
  rw [hc]
  exact ⟨g, ho, hg⟩
theorem i0_ret {i : Instr} {n : Nat} {q : im_N} {res : im_Re} (hf : rm_find M.1 q.1 = some (i, n)) (h1 : im_ret M.2.2.2.1 i n q = some res) (h : Q res) : ir0 G P L ys d M q Q :=
  ⟨1, res, ⟨i, n, hf, Or.inl h1⟩, h⟩
/-- a constant or a local onto the stack -/
theorem i0_k {i : Instr} {n : Nat} {g : im_N → Option im_N} {v : im_V} (hf : rm_find M.1 pc = some (i, n)) (hc : rm_ck i = none) (ho : im_op G M.2.2.1 M.2.1 L ys i n = some g) (hg : g (pc, lv, st, s) = some (pc', lv, v :: st, s)) (h : ir0 G P L ys d M (pc', lv, v :: st, s) Q) : ir0 G P L ys d M (pc, lv, st, s) Q :=
  i0_op hf hc ho hg h
/-- into a local -/
theorem i0_s {i : Instr} {n : Nat} {g : im_N → Option im_N} {v : im_V} (hf : rm_find M.1 pc = some (i, n)) (hc : rm_ck i = none) (ho : im_op G M.2.2.1 M.2.1 L ys i n = some g) (hg : g (pc, lv, v :: st, s) = some (pc', lv', st, s)) (h : ir0 G P L ys d M (pc', lv', st, s) Q) : ir0 G P L ys d M (pc, lv, v :: st, s) Q :=
  i0_op hf hc ho hg h
theorem im_rng {x : Int} (h1 : -2147483648 ≤ x) (h2 : x ≤ 2147483647) : im_iI x = true := by
  unfold im_iI
  simp only [Bool.and_eq_true, decide_eq_true_eq]
  exact ⟨h1, h2⟩
theorem im_rngJ {x : Int} (h1 : -9223372036854775808 ≤ x) (h2 : x ≤ 9223372036854775807) : im_iJ x = true := by
  unfold im_iJ
  simp only [Bool.and_eq_true, decide_eq_true_eq]
  exact ⟨h1, h2⟩
theorem im_bm {x : Int} (h1 : -2147483648 ≤ x) (h2 : x ≤ 2147483647) : (Int32.ofInt x).toInt = x := im_to32 (im_rng h1 h2)
theorem im_bmJ {x : Int} (h1 : -9223372036854775808 ≤ x) (h2 : x ≤ 9223372036854775807) : (Int64.ofInt x).toInt = x := im_to64 (im_rngJ h1 h2)
theorem i0_inc {j : Nat} {k x : Int} (hf : rm_find M.1 pc = some (.iinc j k, 3)) (hp : pc + 3 = pc') (hg : im_get lv j = some (0, x)) (hn : decide (j < M.2.2.1) = true) (h1 : -2147483648 ≤ x + k) (h2 : x + k ≤ 2147483647) (h : ir0 G P L ys d M (pc', im_put1 lv j (0, x + k), st, s) Q) : ir0 G P L ys d M (pc, lv, st, s) Q := by
  subst hp
  refine i0_op hf rfl rfl ?_ h
  unfold im_iinc
  dsimp only
  rw [hg]
  have e : (Int32.ofInt x + Int32.ofInt k).toInt = x + k := by rw [← Int32.ofInt_add]; exact im_bm h1 h2
  simp only [of_decide_eq_true hn, if_true, e]
theorem i0_ii {i : Instr} {f : Int32 → Int32 → Int32} {x y z : Int} (hf : rm_find M.1 pc = some (i, 1)) (hc : rm_ck i = none) (ho : im_op G M.2.2.1 M.2.1 L ys i 1 = some (im_ii f)) (hp : pc + 1 = pc') (hz : (f (Int32.ofInt x) (Int32.ofInt y)).toInt = z) (h : ir0 G P L ys d M (pc', lv, (0, z) :: st, s) Q) : ir0 G P L ys d M (pc, lv, (0, y) :: (0, x) :: st, s) Q := by
  subst hp
  subst hz
  exact i0_op hf hc ho rfl h
/-- any answer of an operation on ints -/
theorem i0_iiA {i : Instr} {f : Int32 → Int32 → Int32} {x y : Int} (hf : rm_find M.1 pc = some (i, 1)) (hc : rm_ck i = none) (ho : im_op G M.2.2.1 M.2.1 L ys i 1 = some (im_ii f)) (hp : pc + 1 = pc') (h : ∀ z : Int, -2147483648 ≤ z → z ≤ 2147483647 → ir0 G P L ys d M (pc', lv, (0, z) :: st, s) Q) : ir0 G P L ys d M (pc, lv, (0, y) :: (0, x) :: st, s) Q :=
  i0_ii hf hc ho hp rfl (h _ (by have := (f (Int32.ofInt x) (Int32.ofInt y)).le_toInt; omega) (by have := (f (Int32.ofInt x) (Int32.ofInt y)).toInt_lt; omega))
theorem i0_add {x y : Int} (hf : rm_find M.1 pc = some (.iadd, 1)) (hp : pc + 1 = pc') (h1 : -2147483648 ≤ x + y) (h2 : x + y ≤ 2147483647) (h : ir0 G P L ys d M (pc', lv, (0, x + y) :: st, s) Q) : ir0 G P L ys d M (pc, lv, (0, y) :: (0, x) :: st, s) Q :=
  i0_ii hf rfl rfl hp (by show (Int32.ofInt x + Int32.ofInt y).toInt = _; rw [← Int32.ofInt_add]; exact im_bm h1 h2) h
theorem i0_sub {x y : Int} (hf : rm_find M.1 pc = some (.isub, 1)) (hp : pc + 1 = pc') (h1 : -2147483648 ≤ x - y) (h2 : x - y ≤ 2147483647) (h : ir0 G P L ys d M (pc', lv, (0, x - y) :: st, s) Q) : ir0 G P L ys d M (pc, lv, (0, y) :: (0, x) :: st, s) Q :=
  i0_ii hf rfl rfl hp (by show (Int32.ofInt x - Int32.ofInt y).toInt = _; rw [← Int32.ofInt_sub]; exact im_bm h1 h2) h
theorem i0_mul {x y : Int} (hf : rm_find M.1 pc = some (.imul, 1)) (hp : pc + 1 = pc') (h1 : -2147483648 ≤ x * y) (h2 : x * y ≤ 2147483647) (h : ir0 G P L ys d M (pc', lv, (0, x * y) :: st, s) Q) : ir0 G P L ys d M (pc, lv, (0, y) :: (0, x) :: st, s) Q :=
  i0_ii hf rfl rfl hp (by show (Int32.ofInt x * Int32.ofInt y).toInt = _; rw [← Int32.ofInt_mul]; exact im_bm h1 h2) h
theorem i0_iz {i : Instr} {f : Int32 → Int32 → Int32} {x y z : Int} (hf : rm_find M.1 pc = some (i, 1)) (hc : rm_ck i = none) (ho : im_op G M.2.2.1 M.2.1 L ys i 1 = some (im_iiz f)) (hp : pc + 1 = pc') (hy : y ≠ 0) (hz : (f (Int32.ofInt x) (Int32.ofInt y)).toInt = z) (h : ir0 G P L ys d M (pc', lv, (0, z) :: st, s) Q) : ir0 G P L ys d M (pc, lv, (0, y) :: (0, x) :: st, s) Q := by
  subst hp
  subst hz
  refine i0_op hf hc ho ?_ h
  show (if y = 0 then none else some (pc + 1, lv, (0, (f (Int32.ofInt x) (Int32.ofInt y)).toInt) :: st, s)) = _
  rw [if_neg hy]
theorem im_div32 {x y : Int} (hx : im_iI x = true) (hy : im_iI y = true) (hn : y ≠ -1) : (Int32.ofInt x / Int32.ofInt y).toInt = x.tdiv y := by
  rw [Int32.toInt_div_of_ne_right _ _ (fun e => hn (by rw [← im_to32 hy, e]; rfl)), im_to32 hx, im_to32 hy]
theorem im_tdiv_rng {x y : Int} (hx : im_iI x = true) (hy : im_iI y = true) (hn : y ≠ -1) : im_iI (x.tdiv y) = true := by
  rw [← im_div32 hx hy hn]
  exact im_of32 _
theorem i0_div {x y : Int} (hf : rm_find M.1 pc = some (.idiv, 1)) (hp : pc + 1 = pc') (hx1 : -2147483648 ≤ x) (hx2 : x ≤ 2147483647) (hy : 0 < y) (hy2 : y ≤ 2147483647) (h : ir0 G P L ys d M (pc', lv, (0, x.tdiv y) :: st, s) Q) : ir0 G P L ys d M (pc, lv, (0, y) :: (0, x) :: st, s) Q :=
  i0_iz hf rfl rfl hp (by omega) (im_div32 (im_rng hx1 hx2) (im_rng (by omega) hy2) (by omega)) h
theorem i0_rem {x y : Int} (hf : rm_find M.1 pc = some (.irem, 1)) (hp : pc + 1 = pc') (hx1 : -2147483648 ≤ x) (hx2 : x ≤ 2147483647) (hy : 0 < y) (hy2 : y ≤ 2147483647) (h : ir0 G P L ys d M (pc', lv, (0, x.tmod y) :: st, s) Q) : ir0 G P L ys d M (pc, lv, (0, y) :: (0, x) :: st, s) Q := by
  refine i0_iz hf rfl rfl hp (by omega) ?_ h
  show (Int32.ofInt x - Int32.ofInt x / Int32.ofInt y * Int32.ofInt y).toInt = _
  have hX := im_rng hx1 hx2
  have hY := im_rng (x := y) (by omega) hy2
  have e : Int32.ofInt x / Int32.ofInt y = Int32.ofInt (x.tdiv y) := by
    apply Int32.toInt_inj.mp
    rw [im_div32 hX hY (by omega), im_to32 (im_tdiv_rng hX hY (by omega))]
  rw [e, ← Int32.ofInt_mul, ← Int32.ofInt_sub]
  have e2 : x - x.tdiv y * y = x.tmod y := by
    have := Int.mul_tdiv_add_tmod x y
    have e3 : y * x.tdiv y = x.tdiv y * y := Int.mul_comm _ _
    omega
  rw [e2]
  have b1 := Int.tmod_lt_of_pos x hy
  have b2 := Int.lt_tmod_of_pos x hy
  exact im_bm (by omega) (by omega)
theorem i0_jj {i : Instr} {f : Int64 → Int64 → Int64} {x y z : Int} (hf : rm_find M.1 pc = some (i, 1)) (hc : rm_ck i = none) (ho : im_op G M.2.2.1 M.2.1 L ys i 1 = some (im_jj f)) (hp : pc + 1 = pc') (hz : (f (Int64.ofInt x) (Int64.ofInt y)).toInt = z) (h : ir0 G P L ys d M (pc', lv, (1, z) :: st, s) Q) : ir0 G P L ys d M (pc, lv, (1, y) :: (1, x) :: st, s) Q := by
  subst hp
  subst hz
  exact i0_op hf hc ho rfl h
theorem i0_jjA {i : Instr} {f : Int64 → Int64 → Int64} {x y : Int} (hf : rm_find M.1 pc = some (i, 1)) (hc : rm_ck i = none) (ho : im_op G M.2.2.1 M.2.1 L ys i 1 = some (im_jj f)) (hp : pc + 1 = pc') (h : ∀ z : Int, -9223372036854775808 ≤ z → z ≤ 9223372036854775807 → ir0 G P L ys d M (pc', lv, (1, z) :: st, s) Q) : ir0 G P L ys d M (pc, lv, (1, y) :: (1, x) :: st, s) Q :=
  i0_jj hf hc ho hp rfl (h _ (by have := (f (Int64.ofInt x) (Int64.ofInt y)).le_toInt; omega) (by have := (f (Int64.ofInt x) (Int64.ofInt y)).toInt_lt; omega))
theorem i0_ladd {x y : Int} (hf : rm_find M.1 pc = some (.ladd, 1)) (hp : pc + 1 = pc') (h1 : -9223372036854775808 ≤ x + y) (h2 : x + y ≤ 9223372036854775807) (h : ir0 G P L ys d M (pc', lv, (1, x + y) :: st, s) Q) : ir0 G P L ys d M (pc, lv, (1, y) :: (1, x) :: st, s) Q :=
  i0_jj hf rfl rfl hp (by show (Int64.ofInt x + Int64.ofInt y).toInt = _; rw [← Int64.ofInt_add]; exact im_bmJ h1 h2) h
theorem i0_lsub {x y : Int} (hf : rm_find M.1 pc = some (.lsub, 1)) (hp : pc + 1 = pc') (h1 : -9223372036854775808 ≤ x - y) (h2 : x - y ≤ 9223372036854775807) (h : ir0 G P L ys d M (pc', lv, (1, x - y) :: st, s) Q) : ir0 G P L ys d M (pc, lv, (1, y) :: (1, x) :: st, s) Q :=
  i0_jj hf rfl rfl hp (by show (Int64.ofInt x - Int64.ofInt y).toInt = _; rw [← Int64.ofInt_sub]; exact im_bmJ h1 h2) h
theorem i0_lmul {x y : Int} (hf : rm_find M.1 pc = some (.lmul, 1)) (hp : pc + 1 = pc') (h1 : -9223372036854775808 ≤ x * y) (h2 : x * y ≤ 9223372036854775807) (h : ir0 G P L ys d M (pc', lv, (1, x * y) :: st, s) Q) : ir0 G P L ys d M (pc, lv, (1, y) :: (1, x) :: st, s) Q :=
  i0_jj hf rfl rfl hp (by show (Int64.ofInt x * Int64.ofInt y).toInt = _; rw [← Int64.ofInt_mul]; exact im_bmJ h1 h2) h
theorem i0_jz {i : Instr} {f : Int64 → Int64 → Int64} {x y z : Int} (hf : rm_find M.1 pc = some (i, 1)) (hc : rm_ck i = none) (ho : im_op G M.2.2.1 M.2.1 L ys i 1 = some (im_jjz f)) (hp : pc + 1 = pc') (hy : y ≠ 0) (hz : (f (Int64.ofInt x) (Int64.ofInt y)).toInt = z) (h : ir0 G P L ys d M (pc', lv, (1, z) :: st, s) Q) : ir0 G P L ys d M (pc, lv, (1, y) :: (1, x) :: st, s) Q := by
  subst hp
  subst hz
  refine i0_op hf hc ho ?_ h
  show (if y = 0 then none else some (pc + 1, lv, (1, (f (Int64.ofInt x) (Int64.ofInt y)).toInt) :: st, s)) = _
  rw [if_neg hy]
theorem i0_jzA {i : Instr} {f : Int64 → Int64 → Int64} {x y : Int} (hf : rm_find M.1 pc = some (i, 1)) (hc : rm_ck i = none) (ho : im_op G M.2.2.1 M.2.1 L ys i 1 = some (im_jjz f)) (hp : pc + 1 = pc') (hy : y ≠ 0) (h : ∀ z : Int, -9223372036854775808 ≤ z → z ≤ 9223372036854775807 → ir0 G P L ys d M (pc', lv, (1, z) :: st, s) Q) : ir0 G P L ys d M (pc, lv, (1, y) :: (1, x) :: st, s) Q :=
  i0_jz hf hc ho hp hy rfl (h _ (by have := (f (Int64.ofInt x) (Int64.ofInt y)).le_toInt; omega) (by have := (f (Int64.ofInt x) (Int64.ofInt y)).toInt_lt; omega))
theorem im_div64 {x y : Int} (hx : im_iJ x = true) (hy : im_iJ y = true) (hn : y ≠ -1) : (Int64.ofInt x / Int64.ofInt y).toInt = x.tdiv y := by
  rw [Int64.toInt_div_of_ne_right _ _ (fun e => hn (by rw [← im_to64 hy, e]; rfl)), im_to64 hx, im_to64 hy]
theorem im_tdiv_rngJ {x y : Int} (hx : im_iJ x = true) (hy : im_iJ y = true) (hn : y ≠ -1) : im_iJ (x.tdiv y) = true := by
  rw [← im_div64 hx hy hn]
  exact im_of64 _
theorem i0_ldiv {x y : Int} (hf : rm_find M.1 pc = some (.ldiv, 1)) (hp : pc + 1 = pc') (hx1 : -9223372036854775808 ≤ x) (hx2 : x ≤ 9223372036854775807) (hy : 0 < y) (hy2 : y ≤ 9223372036854775807) (h : ir0 G P L ys d M (pc', lv, (1, x.tdiv y) :: st, s) Q) : ir0 G P L ys d M (pc, lv, (1, y) :: (1, x) :: st, s) Q :=
  i0_jz hf rfl rfl hp (by omega) (im_div64 (im_rngJ hx1 hx2) (im_rngJ (by omega) hy2) (by omega)) h
theorem i0_lrem {x y : Int} (hf : rm_find M.1 pc = some (.lrem, 1)) (hp : pc + 1 = pc') (hx1 : -9223372036854775808 ≤ x) (hx2 : x ≤ 9223372036854775807) (hy : 0 < y) (hy2 : y ≤ 9223372036854775807) (h : ir0 G P L ys d M (pc', lv, (1, x.tmod y) :: st, s) Q) : ir0 G P L ys d M (pc, lv, (1, y) :: (1, x) :: st, s) Q := by
  refine i0_jz hf rfl rfl hp (by omega) ?_ h
  show (Int64.ofInt x - Int64.ofInt x / Int64.ofInt y * Int64.ofInt y).toInt = _
  have hX := im_rngJ hx1 hx2
  have hY := im_rngJ (x := y) (by omega) hy2
  have e : Int64.ofInt x / Int64.ofInt y = Int64.ofInt (x.tdiv y) := by
    apply Int64.toInt_inj.mp
    rw [im_div64 hX hY (by omega), im_to64 (im_tdiv_rngJ hX hY (by omega))]
  rw [e, ← Int64.ofInt_mul, ← Int64.ofInt_sub]
  have e2 : x - x.tdiv y * y = x.tmod y := by
    have := Int.mul_tdiv_add_tmod x y
    have e3 : y * x.tdiv y = x.tdiv y * y := Int.mul_comm _ _
    omega
  rw [e2]
  have b1 := Int.tmod_lt_of_pos x hy
  have b2 := Int.lt_tmod_of_pos x hy
  exact im_bmJ (by omega) (by omega)
theorem i0_jij {i : Instr} {f : Int64 → Int32 → Int64} {x y z : Int} (hf : rm_find M.1 pc = some (i, 1)) (hc : rm_ck i = none) (ho : im_op G M.2.2.1 M.2.1 L ys i 1 = some (im_jij f)) (hp : pc + 1 = pc') (hz : (f (Int64.ofInt x) (Int32.ofInt y)).toInt = z) (h : ir0 G P L ys d M (pc', lv, (1, z) :: st, s) Q) : ir0 G P L ys d M (pc, lv, (0, y) :: (1, x) :: st, s) Q := by
  subst hp
  subst hz
  exact i0_op hf hc ho rfl h
theorem i0_jijA {i : Instr} {f : Int64 → Int32 → Int64} {x y : Int} (hf : rm_find M.1 pc = some (i, 1)) (hc : rm_ck i = none) (ho : im_op G M.2.2.1 M.2.1 L ys i 1 = some (im_jij f)) (hp : pc + 1 = pc') (h : ∀ z : Int, -9223372036854775808 ≤ z → z ≤ 9223372036854775807 → ir0 G P L ys d M (pc', lv, (1, z) :: st, s) Q) : ir0 G P L ys d M (pc, lv, (0, y) :: (1, x) :: st, s) Q :=
  i0_jij hf hc ho hp rfl (h _ (by have := (f (Int64.ofInt x) (Int32.ofInt y)).le_toInt; omega) (by have := (f (Int64.ofInt x) (Int32.ofInt y)).toInt_lt; omega))
theorem i0_i2l {x : Int} (hf : rm_find M.1 pc = some (.i2l, 1)) (hp : pc + 1 = pc') (h1 : -2147483648 ≤ x) (h2 : x ≤ 2147483647) (h : ir0 G P L ys d M (pc', lv, (1, x) :: st, s) Q) : ir0 G P L ys d M (pc, lv, (0, x) :: st, s) Q := by
  subst hp
  refine i0_op hf rfl rfl ?_ h
  show some (pc + 1, lv, (1, (Int32.ofInt x).toInt64.toInt) :: st, s) = _
  rw [Int32.toInt_toInt64, im_bm h1 h2]
/-- a conversion of which any answer is taken -/
theorem i0_i1A {i : Instr} {f : Int32 → Int32} {x : Int} (hf : rm_find M.1 pc = some (i, 1)) (hc : rm_ck i = none) (ho : im_op G M.2.2.1 M.2.1 L ys i 1 = some (im_i1 (fun x => .int (f x)))) (hp : pc + 1 = pc') (h : ∀ z : Int, z = (f (Int32.ofInt x)).toInt → -2147483648 ≤ z → z ≤ 2147483647 → ir0 G P L ys d M (pc', lv, (0, z) :: st, s) Q) : ir0 G P L ys d M (pc, lv, (0, x) :: st, s) Q := by
  subst hp
  exact i0_op hf hc ho rfl (h _ rfl (by have := (f (Int32.ofInt x)).le_toInt; omega) (by have := (f (Int32.ofInt x)).toInt_lt; omega))
theorem i0_j1A {i : Instr} {f : Int64 → Int32} {x : Int} (hf : rm_find M.1 pc = some (i, 1)) (hc : rm_ck i = none) (ho : im_op G M.2.2.1 M.2.1 L ys i 1 = some (im_j1 (fun x => .int (f x)))) (hp : pc + 1 = pc') (h : ∀ z : Int, z = (f (Int64.ofInt x)).toInt → -2147483648 ≤ z → z ≤ 2147483647 → ir0 G P L ys d M (pc', lv, (0, z) :: st, s) Q) : ir0 G P L ys d M (pc, lv, (1, x) :: st, s) Q := by
  subst hp
  exact i0_op hf hc ho rfl (h _ rfl (by have := (f (Int64.ofInt x)).le_toInt; omega) (by have := (f (Int64.ofInt x)).toInt_lt; omega))
theorem i0_l2i {x : Int} (hf : rm_find M.1 pc = some (.l2i, 1)) (hp : pc + 1 = pc') (h1 : -2147483648 ≤ x) (h2 : x ≤ 2147483647) (h : ir0 G P L ys d M (pc', lv, (0, x) :: st, s) Q) : ir0 G P L ys d M (pc, lv, (1, x) :: st, s) Q := by
  refine i0_j1A hf rfl rfl hp (fun z hz _ _ => ?_)
  rw [Int64.toInt_toInt32, im_bmJ (by omega) (by omega), Int.bmod_eq_of_le (by omega) (by omega)] at hz
  subst hz
  exact h
theorem i0_ineg {x : Int} (hf : rm_find M.1 pc = some (.ineg, 1)) (hp : pc + 1 = pc') (h1 : -2147483647 ≤ x) (h2 : x ≤ 2147483647) (h : ir0 G P L ys d M (pc', lv, (0, -x) :: st, s) Q) : ir0 G P L ys d M (pc, lv, (0, x) :: st, s) Q := by
  refine i0_i1A hf rfl rfl hp (fun z hz _ _ => ?_)
  rw [Int32.toInt_neg, im_bm (by omega) (by omega), Int.bmod_eq_of_le (by omega) (by omega)] at hz
  subst hz
  exact h
theorem i0_lneg {x : Int} (hf : rm_find M.1 pc = some (.lneg, 1)) (hp : pc + 1 = pc') (h1 : -9223372036854775807 ≤ x) (h2 : x ≤ 9223372036854775807) (h : ir0 G P L ys d M (pc', lv, (1, -x) :: st, s) Q) : ir0 G P L ys d M (pc, lv, (1, x) :: st, s) Q := by
  subst hp
  refine i0_op hf rfl rfl ?_ h
  show some (pc + 1, lv, (1, (-(Int64.ofInt x)).toInt) :: st, s) = _
  rw [Int64.toInt_neg, im_bmJ (by omega) (by omega), Int.bmod_eq_of_le (by omega) (by omega)]
theorem i0_lnegA {x : Int} (hf : rm_find M.1 pc = some (.lneg, 1)) (hp : pc + 1 = pc') (h : ∀ z : Int, -9223372036854775808 ≤ z → z ≤ 9223372036854775807 → ir0 G P L ys d M (pc', lv, (1, z) :: st, s) Q) : ir0 G P L ys d M (pc, lv, (1, x) :: st, s) Q := by
  subst hp
  exact i0_op hf rfl rfl rfl (h _ (by have := (-(Int64.ofInt x)).le_toInt; omega) (by have := (-(Int64.ofInt x)).toInt_lt; omega))
theorem i0_lcmp {x y : Int} (hf : rm_find M.1 pc = some (.lcmp, 1)) (hp : pc + 1 = pc') (hx1 : -9223372036854775808 ≤ x) (hx2 : x ≤ 9223372036854775807) (hy1 : -9223372036854775808 ≤ y) (hy2 : y ≤ 9223372036854775807) (h : ∀ z : Int, ((x < y ∧ z = -1) ∨ (x = y ∧ z = 0) ∨ (y < x ∧ z = 1)) → ir0 G P L ys d M (pc', lv, (0, z) :: st, s) Q) : ir0 G P L ys d M (pc, lv, (1, y) :: (1, x) :: st, s) Q := by
  subst hp
  refine i0_op hf rfl rfl rfl (h _ ?_)
  have e1 := im_bmJ hx1 hx2
  have e2 := im_bmJ hy1 hy2
  have c1 : (Int64.ofInt x > Int64.ofInt y) ↔ y < x := by
    show Int64.ofInt y < Int64.ofInt x ↔ _
    rw [Int64.lt_iff_toInt_lt, e1, e2]
  have c2 : (Int64.ofInt x = Int64.ofInt y) ↔ x = y := by
    rw [← Int64.toInt_inj, e1, e2]
  unfold lg_cmp
  by_cases h1 : y < x
  · rw [if_pos (c1.mpr h1)]
    exact Or.inr (Or.inr ⟨h1, rfl⟩)
  · rw [if_neg (fun z => h1 (c1.mp z))]
    by_cases h2 : x = y
    · rw [if_pos (c2.mpr h2)]
      exact Or.inr (Or.inl ⟨h2, rfl⟩)
    · rw [if_neg (fun z => h2 (c2.mp z))]
      exact Or.inl ⟨by omega, rfl⟩
theorem i0_goto {off : Int} (hf : rm_find M.1 pc = some (.goto off, 3)) (ht : rm_tgt pc off = some pc') (h : ir0 G P L ys d M (pc', lv, st, s) Q) : ir0 G P L ys d M (pc, lv, st, s) Q := by
  refine i0_op hf rfl rfl ?_ h
  unfold im_goto
  dsimp only
  rw [ht]
theorem i0_if1 {cd : ClassFile.Cond} {off x : Int} {pt : Nat} (hf : rm_find M.1 pc = some (.ifCond cd off, 3)) (ht : rm_tgt pc off = some pt) (hp : pc + 3 = pc') (h1 : im_cnd cd x 0 = true → ir0 G P L ys d M (pt, lv, st, s) Q) (h2 : im_cnd cd x 0 = false → ir0 G P L ys d M (pc', lv, st, s) Q) : ir0 G P L ys d M (pc, lv, (0, x) :: st, s) Q := by
  subst hp
  cases hb : im_cnd cd x 0 with
  | true =>
    refine i0_op hf rfl rfl ?_ (h1 hb)
    unfold im_if1
    dsimp only
    rw [ht]
    simp only [hb, if_true]
  | false =>
    refine i0_op hf rfl rfl ?_ (h2 hb)
    unfold im_if1
    dsimp only
    rw [ht]
    simp [hb]
theorem i0_if2 {cd : ClassFile.Cond} {off x y : Int} {pt : Nat} (hf : rm_find M.1 pc = some (.if_icmp cd off, 3)) (ht : rm_tgt pc off = some pt) (hp : pc + 3 = pc') (h1 : im_cnd cd x y = true → ir0 G P L ys d M (pt, lv, st, s) Q) (h2 : im_cnd cd x y = false → ir0 G P L ys d M (pc', lv, st, s) Q) : ir0 G P L ys d M (pc, lv, (0, y) :: (0, x) :: st, s) Q := by
  subst hp
  cases hb : im_cnd cd x y with
  | true =>
    refine i0_op hf rfl rfl ?_ (h1 hb)
    unfold im_if2
    dsimp only
    rw [ht]
    simp only [hb, if_true]
  | false =>
    refine i0_op hf rfl rfl ?_ (h2 hb)
    unfold im_if2
    dsimp only
    rw [ht]
    simp [hb]
end IRS
