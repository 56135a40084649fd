/-! STEPS: cells, calls, ends; fewer locals -/
section IRH
variable {G : List im_D} {P : Nat → rm_M} {L : Nat} {ys : Nat → Int32} {d : Nat} {M : rm_M} {pc pc' : Nat} {lv lv' : List (Nat × im_V)} {st : List im_V} {s : im_S} {Q : im_Re → Prop}
theorem i0_getI {idx ci f w t a : Nat} {tys : List Nat} {z : Int} (hf : rm_find M.1 pc = some (.getfield idx, 3)) (hl : rm_lk M.2.1 idx = some (0, ci, f, w)) (hp : pc + 3 = pc') (hG : G[a]? = some (0, ci, tys)) (ht : tys[f]? = some t) (h1 : t ≠ 1) (h3 : t ≠ 3) (hz : s.1 a f = z) (b1 : -2147483648 ≤ z) (b2 : z ≤ 2147483647) (h : ir0 G P L ys d M (pc', lv, (0, z) :: st, s) Q) : ir0 G P L ys d M (pc, lv, (2, (a : Int)) :: st, s) Q := by
  subst hp
  subst hz
  refine i0_op hf rfl rfl ?_ h
  rw [hl]
  show (match G[a]? with
    | some (0, ci', tys) => if ci' = ci then (match tys[f]? with
      | some t => (match im_fo t (s.1 a f) with
        | some v => some (pc + 3, lv, v :: st, s)
        | none => none)
      | none => none) else none
    | _ => none) = _
  rw [hG]
  show (if ci = ci then (match tys[f]? with
      | some t => (match im_fo t (s.1 a f) with
        | some v => some (pc + 3, lv, v :: st, s)
        | none => none)
      | none => none) else none) = _
  rw [if_pos rfl, ht]
  show (match im_fo t (s.1 a f) with
        | some v => some (pc + 3, lv, v :: st, s)
        | none => none) = _
  unfold im_fo
  rw [if_neg h1, if_neg h3, if_pos (im_rng b1 b2)]
theorem i0_getJ {idx ci f w a : Nat} {tys : List Nat} {z : Int} (hf : rm_find M.1 pc = some (.getfield idx, 3)) (hl : rm_lk M.2.1 idx = some (0, ci, f, w)) (hp : pc + 3 = pc') (hG : G[a]? = some (0, ci, tys)) (ht : tys[f]? = some 1) (hz : s.1 a f = z) (b1 : -9223372036854775808 ≤ z) (b2 : z ≤ 9223372036854775807) (h : ir0 G P L ys d M (pc', lv, (1, z) :: st, s) Q) : ir0 G P L ys d M (pc, lv, (2, (a : Int)) :: st, s) Q := by
  subst hp
  subst hz
  refine i0_op hf rfl rfl ?_ h
  rw [hl]
  show (match G[a]? with
    | some (0, ci', tys) => if ci' = ci then (match tys[f]? with
      | some t => (match im_fo t (s.1 a f) with
        | some v => some (pc + 3, lv, v :: st, s)
        | none => none)
      | none => none) else none
    | _ => none) = _
  rw [hG]
  show (if ci = ci then (match tys[f]? with
      | some t => (match im_fo t (s.1 a f) with
        | some v => some (pc + 3, lv, v :: st, s)
        | none => none)
      | none => none) else none) = _
  rw [if_pos rfl, ht]
  show (match im_fo 1 (s.1 a f) with
        | some v => some (pc + 3, lv, v :: st, s)
        | none => none) = _
  unfold im_fo
  rw [if_pos rfl, if_pos (im_rngJ b1 b2)]
theorem i0_getR {idx ci f w a b : Nat} {tys : List Nat} (hf : rm_find M.1 pc = some (.getfield idx, 3)) (hl : rm_lk M.2.1 idx = some (0, ci, f, w)) (hp : pc + 3 = pc') (hG : G[a]? = some (0, ci, tys)) (ht : tys[f]? = some 3) (hz : s.1 a f = (b : Int)) (h : ir0 G P L ys d M (pc', lv, (2, (b : Int)) :: st, s) Q) : ir0 G P L ys d M (pc, lv, (2, (a : Int)) :: st, s) Q := by
  subst hp
  rw [← hz] at h
  refine i0_op hf rfl rfl ?_ h
  rw [hl]
  show (match G[a]? with
    | some (0, ci', tys) => if ci' = ci then (match tys[f]? with
      | some t => (match im_fo t (s.1 a f) with
        | some v => some (pc + 3, lv, v :: st, s)
        | none => none)
      | none => none) else none
    | _ => none) = _
  rw [hG]
  show (if ci = ci then (match tys[f]? with
      | some t => (match im_fo t (s.1 a f) with
        | some v => some (pc + 3, lv, v :: st, s)
        | none => none)
      | none => none) else none) = _
  rw [if_pos rfl, ht]
  show (match im_fo 3 (s.1 a f) with
        | some v => some (pc + 3, lv, v :: st, s)
        | none => none) = _
  unfold im_fo
  rw [if_neg (by decide), if_pos rfl, if_neg (by omega)]
theorem i0_put {idx ci f t a w : Nat} {tys : List Nat} {v : im_V} (hf : rm_find M.1 pc = some (.putfield idx, 3)) (hl : rm_lk M.2.1 idx = some (0, ci, f, w)) (hp : pc + 3 = pc') (hG : G[a]? = some (0, ci, tys)) (ht : tys[f]? = some t) (h1 : rm_fit (rm_ft ci f) (im_cv v) = true) (h2 : rm_fin ci f = false) (h3 : im_tg t v = true) (h : ir0 G P L ys d M (pc', lv, st, im_up s.1 a f v.2, s.2) Q) : ir0 G P L ys d M (pc, lv, v :: (2, (a : Int)) :: st, s) Q := by
  subst hp
  refine i0_op hf rfl rfl ?_ h
  rw [hl]
  show (match G[a]? with
    | some (0, ci', tys) => if decide (ci' = ci) && rm_fit (rm_ft ci f) (im_cv v) && !(rm_fin ci f) then (match tys[f]? with
      | some t => if im_tg t v then some (pc + 3, lv, st, im_up s.1 a f v.2, s.2) else none
      | none => none) else none
    | _ => none) = _
  rw [hG]
  show (if (decide (ci = ci) && rm_fit (rm_ft ci f) (im_cv v) && !(rm_fin ci f)) = true then (match tys[f]? with
      | some t => if im_tg t v then some (pc + 3, lv, st, im_up s.1 a f v.2, s.2) else none
      | none => none) else none) = _
  rw [if_pos (by rw [h1, h2]; simp), ht]
  show (if im_tg t v = true then some (pc + 3, lv, st, im_up s.1 a f v.2, s.2) else none) = _
  rw [if_pos h3]
theorem im_in_of {i : Int} {n : Nat} (h1 : 0 ≤ i) (h2 : i < n) : im_in i n = true := by
  unfold im_in
  simp only [Bool.and_eq_true, decide_eq_true_eq]
  exact ⟨h1, h2⟩
theorem i0_iald {a n : Nat} {zs : List Nat} {i z : Int} (hf : rm_find M.1 pc = some (.iaload, 1)) (hp : pc + 1 = pc') (hG : G[a]? = some (1, n, zs)) (i1 : 0 ≤ i) (i2 : i < n) (hz : s.2 a i.toNat = z) (b1 : -2147483648 ≤ z) (b2 : z ≤ 2147483647) (h : ir0 G P L ys d M (pc', lv, (0, z) :: st, s) Q) : ir0 G P L ys d M (pc, lv, (0, i) :: (2, (a : Int)) :: st, s) Q := by
  subst hp
  subst hz
  refine i0_op hf rfl rfl ?_ h
  show (match G[a]? with
    | some (1, n, _) => if im_in i n && im_iI (s.2 a i.toNat) then some (pc + 1, lv, (0, s.2 a i.toNat) :: st, s) else none
    | _ => none) = _
  rw [hG]
  show (if (im_in i n && im_iI (s.2 a i.toNat)) = true then some (pc + 1, lv, (0, s.2 a i.toNat) :: st, s) else none) = _
  rw [im_in_of i1 i2, im_rng b1 b2]
  rfl
theorem i0_lald {a n : Nat} {zs : List Nat} {i z : Int} (hf : rm_find M.1 pc = some (.laload, 1)) (hp : pc + 1 = pc') (hG : G[a]? = some (2, n, zs)) (i1 : 0 ≤ i) (i2 : i < n) (hz : s.2 a i.toNat = z) (b1 : -9223372036854775808 ≤ z) (b2 : z ≤ 9223372036854775807) (h : ir0 G P L ys d M (pc', lv, (1, z) :: st, s) Q) : ir0 G P L ys d M (pc, lv, (0, i) :: (2, (a : Int)) :: st, s) Q := by
  subst hp
  subst hz
  refine i0_op hf rfl rfl ?_ h
  show (match G[a]? with
    | some (2, n, _) => if im_in i n && im_iJ (s.2 a i.toNat) then some (pc + 1, lv, (1, s.2 a i.toNat) :: st, s) else none
    | _ => none) = _
  rw [hG]
  show (if (im_in i n && im_iJ (s.2 a i.toNat)) = true then some (pc + 1, lv, (1, s.2 a i.toNat) :: st, s) else none) = _
  rw [im_in_of i1 i2, im_rngJ b1 b2]
  rfl
theorem i0_cald {a n : Nat} {zs : List Nat} {i z : Int} (hf : rm_find M.1 pc = some (.caload, 1)) (hp : pc + 1 = pc') (hG : G[a]? = some (3, n, zs)) (i1 : 0 ≤ i) (i2 : i < n) (hz : s.2 a i.toNat = z) (b1 : -2147483648 ≤ z) (b2 : z ≤ 2147483647) (h : ir0 G P L ys d M (pc', lv, (0, z) :: st, s) Q) : ir0 G P L ys d M (pc, lv, (0, i) :: (2, (a : Int)) :: st, s) Q := by
  subst hp
  subst hz
  refine i0_op hf rfl rfl ?_ h
  show (match G[a]? with
    | some (3, n, _) => if im_in i n && im_iI (s.2 a i.toNat) then some (pc + 1, lv, (0, s.2 a i.toNat) :: st, s) else none
    | _ => none) = _
  rw [hG]
  show (if (im_in i n && im_iI (s.2 a i.toNat)) = true then some (pc + 1, lv, (0, s.2 a i.toNat) :: st, s) else none) = _
  rw [im_in_of i1 i2, im_rng b1 b2]
  rfl
theorem i0_bald {a t n : Nat} {zs : List Nat} {i z : Int} (hf : rm_find M.1 pc = some (.baload, 1)) (hp : pc + 1 = pc') (hG : G[a]? = some (t, n, zs)) (ht : t = 4 ∨ t = 5) (i1 : 0 ≤ i) (i2 : i < n) (hz : s.2 a i.toNat = z) (b1 : -2147483648 ≤ z) (b2 : z ≤ 2147483647) (h : ir0 G P L ys d M (pc', lv, (0, z) :: st, s) Q) : ir0 G P L ys d M (pc, lv, (0, i) :: (2, (a : Int)) :: st, s) Q := by
  subst hp
  subst hz
  refine i0_op hf rfl rfl ?_ h
  show (match G[a]? with
    | some (4, n, _) => if im_in i n && im_iI (s.2 a i.toNat) then some (pc + 1, lv, (0, s.2 a i.toNat) :: st, s) else none
    | some (5, n, _) => if im_in i n && im_iI (s.2 a i.toNat) then some (pc + 1, lv, (0, s.2 a i.toNat) :: st, s) else none
    | _ => none) = _
  rw [hG]
  rcases ht with rfl | rfl
  · show (if (im_in i n && im_iI (s.2 a i.toNat)) = true then some (pc + 1, lv, (0, s.2 a i.toNat) :: st, s) else none) = _
    rw [im_in_of i1 i2, im_rng b1 b2]
    rfl
  · show (if (im_in i n && im_iI (s.2 a i.toNat)) = true then some (pc + 1, lv, (0, s.2 a i.toNat) :: st, s) else none) = _
    rw [im_in_of i1 i2, im_rng b1 b2]
    rfl
theorem i0_aald {a b t n : Nat} {zs : List Nat} {i : Int} (hf : rm_find M.1 pc = some (.aaload, 1)) (hp : pc + 1 = pc') (hG : G[a]? = some (t + 1, n, zs)) (ht : 5 ≤ t ∧ t < 8) (i1 : 0 ≤ i) (i2 : i < n) (hz : s.2 a i.toNat = (b : Int)) (h : ir0 G P L ys d M (pc', lv, (2, (b : Int)) :: st, s) Q) : ir0 G P L ys d M (pc, lv, (0, i) :: (2, (a : Int)) :: st, s) Q := by
  subst hp
  rw [← hz] at h
  refine i0_op hf rfl rfl ?_ h
  show (match G[a]? with
    | some (t + 1, n, _) => if im_in i n && decide (5 ≤ t) && decide (t < 8) then (if s.2 a i.toNat < 0 then some (pc + 1, lv, (3, 0) :: st, s) else some (pc + 1, lv, (2, s.2 a i.toNat) :: st, s)) else none
    | _ => none) = _
  rw [hG]
  show (if (im_in i n && decide (5 ≤ t) && decide (t < 8)) = true then (if s.2 a i.toNat < 0 then some (pc + 1, lv, (3, 0) :: st, s) else some (pc + 1, lv, (2, s.2 a i.toNat) :: st, s)) else none) = _
  rw [im_in_of i1 i2, decide_eq_true ht.1, decide_eq_true ht.2]
  show (if s.2 a i.toNat < 0 then _ else _) = _
  rw [if_neg (by omega)]
theorem i0_iast {i9 : Instr} {a t n : Nat} {zs : List Nat} {i x : Int} (hf : rm_find M.1 pc = some (i9, 1)) (hc : rm_ck i9 = none) (ho : im_op G M.2.2.1 M.2.1 L ys i9 1 = some (im_iast G t)) (hp : pc + 1 = pc') (hG : G[a]? = some (t + 1, n, zs)) (i1 : 0 ≤ i) (i2 : i < n) (hx : im_fit t x = true) (h : ir0 G P L ys d M (pc', lv, st, s.1, im_up s.2 a i.toNat x) Q) : ir0 G P L ys d M (pc, lv, (0, x) :: (0, i) :: (2, (a : Int)) :: st, s) Q := by
  subst hp
  refine i0_op hf hc ho ?_ h
  show (match G[a]? with
    | some (t' + 1, n, _) => if decide (t' = t) && im_in i n && im_fit t x then some (pc + 1, lv, st, s.1, im_up s.2 a i.toNat x) else none
    | _ => none) = _
  rw [hG]
  show (if (decide (t = t) && im_in i n && im_fit t x) = true then some (pc + 1, lv, st, s.1, im_up s.2 a i.toNat x) else none) = _
  rw [im_in_of i1 i2, hx]
  simp
theorem i0_bast {a t n : Nat} {zs : List Nat} {i x : Int} (hf : rm_find M.1 pc = some (.bastore, 1)) (hp : pc + 1 = pc') (hG : G[a]? = some (t + 1, n, zs)) (ht : t = 3 ∨ t = 4) (i1 : 0 ≤ i) (i2 : i < n) (hx : im_fit t x = true) (h : ir0 G P L ys d M (pc', lv, st, s.1, im_up s.2 a i.toNat x) Q) : ir0 G P L ys d M (pc, lv, (0, x) :: (0, i) :: (2, (a : Int)) :: st, s) Q := by
  subst hp
  refine i0_op hf rfl rfl ?_ h
  have key : im_iast G t (pc, lv, (0, x) :: (0, i) :: (2, (a : Int)) :: st, s) = some (pc + 1, lv, st, s.1, im_up s.2 a i.toNat x) := by
    show (match G[a]? with
      | some (t' + 1, n, _) => if decide (t' = t) && im_in i n && im_fit t x then some (pc + 1, lv, st, s.1, im_up s.2 a i.toNat x) else none
      | _ => none) = _
    rw [hG]
    show (if (decide (t = t) && im_in i n && im_fit t x) = true then some (pc + 1, lv, st, s.1, im_up s.2 a i.toNat x) else none) = _
    rw [im_in_of i1 i2, hx]
    simp
  show (match G[a]? with
    | some (4, _, _) => im_iast G 3 (pc, lv, (0, x) :: (0, i) :: (2, (a : Int)) :: st, s)
    | some (5, _, _) => im_iast G 4 (pc, lv, (0, x) :: (0, i) :: (2, (a : Int)) :: st, s)
    | _ => none) = _
  rw [hG]
  rcases ht with rfl | rfl
  · exact key
  · exact key
theorem i0_last {a n : Nat} {zs : List Nat} {i x : Int} (hf : rm_find M.1 pc = some (.lastore, 1)) (hp : pc + 1 = pc') (hG : G[a]? = some (2, n, zs)) (i1 : 0 ≤ i) (i2 : i < n) (h : ir0 G P L ys d M (pc', lv, st, s.1, im_up s.2 a i.toNat x) Q) : ir0 G P L ys d M (pc, lv, (1, x) :: (0, i) :: (2, (a : Int)) :: st, s) Q := by
  subst hp
  refine i0_op hf rfl rfl ?_ h
  show (match G[a]? with
    | some (2, n, _) => if im_in i n then some (pc + 1, lv, st, s.1, im_up s.2 a i.toNat x) else none
    | _ => none) = _
  rw [hG]
  show (if im_in i n = true then some (pc + 1, lv, st, s.1, im_up s.2 a i.toNat x) else none) = _
  rw [im_in_of i1 i2]
  rfl
theorem i0_alen {a t n : Nat} {zs : List Nat} {z : Int} (hf : rm_find M.1 pc = some (.arraylength, 1)) (hp : pc + 1 = pc') (hG : G[a]? = some (t + 1, n, zs)) (ht : t < 8) (hz : (Int32.ofNat n).toInt = z) (h : ir0 G P L ys d M (pc', lv, (0, z) :: st, s) Q) : ir0 G P L ys d M (pc, lv, (2, (a : Int)) :: st, s) Q := by
  subst hp
  subst hz
  refine i0_op hf rfl rfl ?_ h
  show (match G[a]? with
    | some (t + 1, n, _) => if t < 8 then some (pc + 1, lv, (0, (Int32.ofNat n).toInt) :: st, s) else none
    | _ => none) = _
  rw [hG]
  show (if t < 8 then some (pc + 1, lv, (0, (Int32.ofNat n).toInt) :: st, s) else none) = _
  rw [if_pos ht]
theorem i0_acopy {idx w1 w2 a b n0 n1 : Nat} {z0 z1 : List Nat} {n dp sp : Int} (hf : rm_find M.1 pc = some (.invokestatic idx, 3)) (hl : rm_lk M.2.1 idx = some (3, w1, w2, 5)) (hp : pc + 3 = pc') (hG0 : G[a]? = some (1, n0, z0)) (hG1 : G[b]? = some (1, n1, z1)) (h1 : 0 ≤ sp) (h2 : 0 ≤ dp) (h3 : 0 ≤ n) (h4 : sp + n ≤ n0) (h5 : dp + n ≤ n1) (h6 : (st.map fun v : im_V => if v.1 = 1 then 2 else 1).sum ≤ 8) (h : ir0 G P L ys d M (pc', lv, st, s.1, im_cp s.2 a b sp.toNat dp.toNat n.toNat) Q) : ir0 G P L ys d M (pc, lv, (0, n) :: (0, dp) :: (2, (b : Int)) :: (0, sp) :: (2, (a : Int)) :: st, s) Q := by
  subst hp
  refine i0_one hf ⟨rfl, ?_⟩ h
  show im_inv G _ P 0 (rm_lk M.2.1 idx) _ _
  rw [hl]
  show (match G[a]?, G[b]? with
    | some (1, n0, _), some (1, n1, _) => if (0 ≤ sp ∧ 0 ≤ dp ∧ 0 ≤ n) ∧ sp + n ≤ n0 ∧ dp + n ≤ n1 ∧ (st.map fun v : im_V => if v.1 = 1 then 2 else 1).sum ≤ 8 then some (pc + 3, lv, st, s.1, im_cp s.2 a b sp.toNat dp.toNat n.toNat) else none
    | _, _ => none) = _
  rw [hG0, hG1]
  show (if (0 ≤ sp ∧ 0 ≤ dp ∧ 0 ≤ n) ∧ sp + n ≤ n0 ∧ dp + n ≤ n1 ∧ (st.map fun v : im_V => if v.1 = 1 then 2 else 1).sum ≤ 8 then some (pc + 3, lv, st, s.1, im_cp s.2 a b sp.toNat dp.toNat n.toNat) else none) = _
  rw [if_pos ⟨⟨h1, h2, h3⟩, h4, h5, h6⟩]
/-- a call of a static method: the arguments lie on the stack, the last on top -/
theorem i0_callS {idx mi na : Nat} {av rest st0 : List im_V} {Q1 : im_Re → Prop} (hf : rm_find M.1 pc = some (.invokestatic idx, 3)) (hl : rm_lk M.2.1 idx = some (3, mi, na, 0)) (hp : pc + 3 = pc') (e1 : st0.drop na = rest) (e2 : (st0.take na).reverse = av) (hn : decide (na ≤ st0.length) = true) (hs : im_cs rest ≤ 8) (hc : ic G P L ys d mi av s Q1) (h : ∀ res, Q1 res → ir0 G P L ys d M (pc', lv, res.1.toList ++ rest, res.2) Q) : ir0 G P L ys d M (pc, lv, st0, s) Q := by
  subst hp
  obtain ⟨res, h1, h2⟩ := hc
  refine i0_one hf ⟨rfl, ?_⟩ (h res h2)
  show im_inv G _ P 0 (rm_lk M.2.1 idx) _ _
  rw [hl]
  refine ⟨of_decide_eq_true hn, by show im_cs (st0.drop na) ≤ 8; rw [e1]; exact hs, res, by show im_call G P L ys d mi (st0.take na).reverse s res; rw [e2]; exact h1, ?_⟩
  show _ = (pc + 3, lv, res.1.toList ++ st0.drop na, res.2)
  rw [e1]
/-- a call of a method of a cell -/
theorem i0_callV {idx mi na oc a : Nat} {av rest st0 : List im_V} {tys : List Nat} {Q1 : im_Re → Prop} (hf : rm_find M.1 pc = some (.invokevirtual idx, 3)) (hl : rm_lk M.2.1 idx = some (3, mi, na, 1)) (hp : pc + 3 = pc') (e1 : st0.drop na = (2, (a : Int)) :: rest) (e2 : (st0.take na).reverse = av) (hs : im_cs rest ≤ 8) (ho : (P mi).2.2.2.2.2 = oc) (hG : G[a]? = some (0, oc, tys)) (hc : ic G P L ys d mi ((2, (a : Int)) :: av) s Q1) (h : ∀ res, Q1 res → ir0 G P L ys d M (pc', lv, res.1.toList ++ rest, res.2) Q) : ir0 G P L ys d M (pc, lv, st0, s) Q := by
  subst hp
  obtain ⟨res, h1, h2⟩ := hc
  refine i0_one hf ⟨rfl, ?_⟩ (h res h2)
  show im_inv G _ P 1 (rm_lk M.2.1 idx) _ _
  rw [hl]
  refine ⟨(a : Int), rest, tys, e1, hs, by show G[a]? = _; rw [ho]; exact hG, res, ?_, rfl⟩
  show im_call G P L ys d mi ((2, (a : Int)) :: (st0.take na).reverse) s res
  rw [e2]
  exact h1
theorem i0_callF {idx mi na : Nat} {n : Int} {av rest st0 : List im_V} {Q1 : im_Re → Prop} (hf : rm_find M.1 pc = some (.invokevirtual idx, 3)) (hl : rm_lk M.2.1 idx = some (3, mi, na, 4)) (hp : pc + 3 = pc') (e1 : st0.drop na = (4, n) :: rest) (e2 : (st0.take na).reverse = av) (hs : im_cs rest ≤ 8) (hn : n = 2 ∨ n = 4) (hc : ic G P L ys d mi ((4, n) :: av) s Q1) (h : ∀ res, Q1 res → ir0 G P L ys d M (pc', lv, res.1.toList ++ rest, res.2) Q) : ir0 G P L ys d M (pc, lv, st0, s) Q := by
  subst hp
  obtain ⟨res, h1, h2⟩ := hc
  refine i0_one hf ⟨rfl, ?_⟩ (h res h2)
  show im_inv G _ P 1 (rm_lk M.2.1 idx) _ _
  rw [hl]
  refine ⟨n, rest, e1, hn, hs, res, ?_, rfl⟩
  show im_call G P L ys d mi ((4, n) :: (st0.take na).reverse) s res
  rw [e2]
  exact h1
-- ends
theorem i0_vret (hf : rm_find M.1 pc = some (.return_, 1)) (hr : M.2.2.2.1 = 0) (h : Q (none, s)) : ir0 G P L ys d M (pc, lv, [], s) Q :=
  i0_ret hf (by show (if 1 = 1 ∧ M.2.2.2.1 = 0 then _ else _) = _; rw [if_pos ⟨rfl, hr⟩]) h
theorem i0_iret {x : Int} (hf : rm_find M.1 pc = some (.ireturn, 1)) (hr : M.2.2.2.1 = 1) (h : Q (some (0, x), s)) : ir0 G P L ys d M (pc, lv, [(0, x)], s) Q :=
  i0_ret hf (by show (if 1 = 1 ∧ (M.2.2.2.1 = 1 ∨ (M.2.2.2.1 = 2 ∧ (x = 0 ∨ x = 1)) ∨ (M.2.2.2.1 = 5 ∧ x = 0)) then _ else _) = _; rw [if_pos ⟨rfl, Or.inl hr⟩]) h
theorem i0_zret {x : Int} (hf : rm_find M.1 pc = some (.ireturn, 1)) (hr : M.2.2.2.1 = 2) (hx : x = 0 ∨ x = 1) (h : Q (some (0, x), s)) : ir0 G P L ys d M (pc, lv, [(0, x)], s) Q :=
  i0_ret hf (by show (if 1 = 1 ∧ (M.2.2.2.1 = 1 ∨ (M.2.2.2.1 = 2 ∧ (x = 0 ∨ x = 1)) ∨ (M.2.2.2.1 = 5 ∧ x = 0)) then _ else _) = _; rw [if_pos ⟨rfl, Or.inr (Or.inl ⟨hr, hx⟩)⟩]) h
theorem i0_lret {x : Int} (hf : rm_find M.1 pc = some (.lreturn, 1)) (hr : M.2.2.2.1 = 3) (h : Q (some (1, x), s)) : ir0 G P L ys d M (pc, lv, [(1, x)], s) Q :=
  i0_ret hf (by show (if 1 = 1 ∧ M.2.2.2.1 = 3 then _ else _) = _; rw [if_pos ⟨rfl, hr⟩]) h
theorem i0_aret {a : Int} (hf : rm_find M.1 pc = some (.areturn, 1)) (hr : M.2.2.2.1 = 4) (h : Q (some (2, a), s)) : ir0 G P L ys d M (pc, lv, [(2, a)], s) Q :=
  i0_ret hf (by show (if 1 = 1 ∧ M.2.2.2.1 = 4 then _ else _) = _; rw [if_pos ⟨rfl, hr⟩]) h
end IRH
