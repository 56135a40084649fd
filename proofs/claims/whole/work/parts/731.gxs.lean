/-! a run of it is a run -/
theorem gx_at_s {rl : List va_E} {n : Nat} (hn : n = rl.length) (a : Nat) : gx_at rl n a = rl.reverse[a]? := by
  unfold gx_at
  split
  · rename_i h
    rw [List.getElem?_reverse (by omega), hn]
  · rename_i h
    exact (List.getElem?_eq_none_iff.mpr (by rw [List.length_reverse]; omega)).symm
theorem gx_obj_s {rl : List va_E} {n : Nat} (hn : n = rl.length) (a : Nat) : gx_obj rl n a = rm_obj rl.reverse a := by
  unfold gx_obj rm_obj
  rw [gx_at_s hn]
  rfl
theorem gx_arr_s {rl : List va_E} {n : Nat} (hn : n = rl.length) (a : Nat) : gx_arr rl n a = rm_arr rl.reverse a := by
  unfold gx_arr rm_arr
  rw [gx_at_s hn]
  rfl
theorem gx_isObj_s {rl : List va_E} {n : Nat} (hn : n = rl.length) (oc a : Nat) : gx_isObj rl n oc a = rm_isObj rl.reverse oc a := by
  unfold gx_isObj rm_isObj
  rw [gx_obj_s hn]
  rfl
theorem gx_obj_lt {rl : List va_E} {a : Nat} {o : Nat × List Value} (h : rm_obj rl.reverse a = some o) : a < rl.length := by
  have := rm_obj_ok h
  have z := (List.getElem?_eq_some_iff.mp this).1
  rw [List.length_reverse] at z
  exact z
theorem gx_arr_lt {rl : List va_E} {a : Nat} {o : Nat × vp_A} (h : rm_arr rl.reverse a = some o) : a < rl.length := by
  unfold rm_arr at h
  split at h
  · rename_i o' h1
    have z := (List.getElem?_eq_some_iff.mp h1).1
    rw [List.length_reverse] at z
    exact z
  · cases h
theorem gx_set_s {rl : List va_E} {n a : Nat} {x : va_E} (hn : n = rl.length) (ha : a < rl.length) : (rl.set (n - 1 - a) x).reverse = rl.reverse.set a x := by
  apply List.ext_getElem?
  intro b
  by_cases hb : b < rl.length
  · rw [List.getElem?_reverse (by rw [List.length_set]; exact hb), List.length_set, List.getElem?_set, List.getElem?_set, List.length_reverse, List.getElem?_reverse hb]
    by_cases e : a = b
    · rw [if_pos (by omega), if_pos e, if_pos (by omega), if_pos (by omega)]
    · rw [if_neg (by omega), if_neg e]
  · rw [List.getElem?_eq_none_iff.mpr (by rw [List.length_reverse, List.length_set]; omega), List.getElem?_eq_none_iff.mpr (by rw [List.length_set, List.length_reverse]; omega)]
def gx_hp (g : rm_N → Option rm_N) : Prop := ∀ (q : rm_N) (r : rm_N) (H : rm_H), g q = some r → g (q.1, q.2.1, q.2.2.1, H, q.2.2.2.2) = some (r.1, r.2.1, r.2.2.1, H, r.2.2.2.2)
theorem gx_hp_push {n : Nat} {v : Value} : gx_hp (rm_push n v) := fun q r H h => by
  cases h
  rfl
theorem gx_hp_load {f : Value → Bool} {n i : Nat} : gx_hp (rm_loadT f n i) := fun q r H h => by
  unfold rm_loadT at h ⊢
  dsimp only
  split at h
  · split at h
    · rename_i v e c
      cases h
      first | exact if_pos c | (rw [e]; exact if_pos c)
    · cases h
  · cases h
theorem gx_hp_store1 {f : Value → Bool} {nL n i : Nat} : gx_hp (rm_store1 f nL n i) := fun q r H h => by
  unfold rm_store1 at h ⊢
  dsimp only
  split at h
  · split at h
    · rename_i v r' e c
      cases h
      first | exact if_pos c | (rw [e]; exact if_pos c)
    · cases h
  · cases h
theorem gx_hp_store2 {nL n i : Nat} : gx_hp (rm_store2 nL n i) := fun q r H h => by
  unfold rm_store2 at h ⊢
  dsimp only
  split at h
  · split at h
    · rename_i v r' e c
      cases h
      first | exact if_pos c | (rw [e]; exact if_pos c)
    · cases h
  · cases h
theorem gx_hp_iinc {nL i : Nat} {k : Int} : gx_hp (rm_iinc nL i k) := fun q r H h => by
  unfold rm_iinc at h ⊢
  dsimp only
  split at h
  · split at h
    · rename_i x e c
      cases h
      first | exact if_pos c | (rw [e]; exact if_pos c)
    · cases h
  · cases h
theorem gx_hp_ii {f : Int32 → Int32 → Int32} : gx_hp (rm_ii f) := fun q r H h => by
  unfold rm_ii at h ⊢
  dsimp only
  split at h
  · rename_i y x r' e
    cases h
    first | rfl | (rw [e])
  · cases h
theorem gx_hp_jji {f : Int64 → Int64 → Int32} : gx_hp (rm_jji f) := fun q r H h => by
  unfold rm_jji at h ⊢
  dsimp only
  split at h
  · rename_i y x r' e
    cases h
    first | rfl | (rw [e])
  · cases h
theorem gx_hp_jij {f : Int64 → Int32 → Int64} : gx_hp (rm_jij f) := fun q r H h => by
  unfold rm_jij at h ⊢
  dsimp only
  split at h
  · rename_i y x r' e
    cases h
    first | rfl | (rw [e])
  · cases h
theorem gx_hp_j1 {f : Int64 → Value} : gx_hp (rm_j1 f) := fun q r H h => by
  unfold rm_j1 at h ⊢
  dsimp only
  split at h
  · rename_i x r' e
    cases h
    first | rfl | (rw [e])
  · cases h
theorem gx_hp_dup : gx_hp rm_dup := fun q r H h => by
  unfold rm_dup at h ⊢
  dsimp only
  split at h
  · split at h
    · rename_i v r' e c
      cases h
      first | exact if_pos c | (rw [e]; exact if_pos c)
    · cases h
  · cases h
theorem gx_hp_goto {off : Int} : gx_hp (rm_goto off) := fun q r H h => by
  unfold rm_goto at h ⊢
  dsimp only
  split at h
  · rename_i g e
    cases h
    first | rfl | (rw [e])
  · cases h
theorem gx_hp_if1 {c : ClassFile.Cond} {off : Int} : gx_hp (rm_if1 c off) := fun q r H h => by
  unfold rm_if1 at h ⊢
  dsimp only
  split at h
  · rename_i x r' g e1 e2
    cases h
    first | rfl | (rw [e1, e2])
  · cases h
theorem gx_hp_if2 {c : ClassFile.Cond} {off : Int} : gx_hp (rm_if2 c off) := fun q r H h => by
  unfold rm_if2 at h ⊢
  dsimp only
  split at h
  · rename_i y x r' g e1 e2
    cases h
    first | rfl | (rw [e1, e2])
  · cases h
theorem gx_hp_ldc {k : Option (Nat × Nat × Nat × Nat)} : gx_hp (rm_ldcA k) := fun q r H h => by
  unfold rm_ldcA at h ⊢
  split at h
  · exact gx_hp_push q r H h
  · unfold rm_ldc at h ⊢
    split at h
    · exact gx_hp_push q r H h
    · cases h
theorem gx_is {n k : Nat} {f g : rm_N → Option rm_N} (h : rm_is n k f = some g) (hf : gx_hp f) : gx_hp g := by
  unfold rm_is at h
  split at h
  · cases h; exact hf
  · cases h
theorem gx_nh_s {nL : Nat} {ini : Bool} {oc : Nat} {ks : List rm_K5} {L : Nat} {ys : Nat → Int32} {i : Instr} {n : Nat} {g : rm_N → Option rm_N} (h : gx_nh i = true) (ho : rm_op nL ini oc ks L ys i n = some g) : gx_hp g := by
  unfold gx_nh at h
  split at h
  · exact gx_is ho gx_hp_push
  · exact gx_is ho gx_hp_push
  · exact gx_is ho gx_hp_push
  · exact gx_is ho gx_hp_push
  · exact gx_is ho gx_hp_load
  · exact gx_is ho gx_hp_load
  · exact gx_is ho gx_hp_load
  · exact gx_is ho gx_hp_store1
  · exact gx_is ho gx_hp_store1
  · exact gx_is ho gx_hp_store2
  · exact gx_is ho gx_hp_iinc
  · exact gx_is ho gx_hp_ii
  · exact gx_is ho gx_hp_j1
  · exact gx_is ho gx_hp_jji
  · exact gx_is ho gx_hp_jij
  · exact gx_is ho gx_hp_j1
  · exact gx_is ho gx_hp_dup
  · exact gx_is ho gx_hp_goto
  · exact gx_is ho gx_hp_if1
  · exact gx_is ho gx_hp_if2
  · exact gx_is ho gx_hp_ldc
  · cases h
def gx_in (q : gx_N) : Prop := q.2.2.2.2.1 = q.2.2.2.1.length
def gx_rv (q : gx_N) : rm_N := gx_q q q.2.2.2.1.reverse
theorem gx_l1 {ci f x a pc : Nat} {lv : rm_L} {r : List Value} {H : rm_H} {t : rm_T} : rm_getfA (some (0, ci, f, x)) (pc, lv, Value.ref a :: r, H, t) = (match rm_obj H a with
    | some o => if o.1 = ci then (match o.2[f]? with
      | some v => some (pc + 3, lv, v :: r, H, t)
      | none => none) else none
    | none => none) := rfl
theorem gx_l2 {ini : Bool} {oc ci f a pc : Nat} {v : Value} {lv : rm_L} {r : List Value} {H : rm_H} {t : rm_T} : rm_putfA ini oc (some (0, ci, f, 0)) (pc, lv, v :: Value.ref a :: r, H, t) = (match rm_obj H a with
    | some o => if decide (o.1 = ci) && rm_fit (rm_ft ci f) v && decide (f < o.2.length) && (!(rm_fin ci f) || (ini && decide (oc = ci))) then some (pc + 3, lv, r, H.set a (.inr (ci, o.2.set f v)), t) else none
    | none => none) := rfl
theorem gx_l3 {ini : Bool} {oc ci f a pc w : Nat} {v : Value} {lv : rm_L} {r : List Value} {H : rm_H} {t : rm_T} : rm_putfA ini oc (some (0, ci, f, w + 1)) (pc, lv, v :: Value.ref a :: r, H, t) = (match rm_obj H a with
    | some o => if decide (o.1 = ci) && rm_fit (rm_ft ci f) v && decide (f < o.2.length) && !(rm_fin ci f) then some (pc + 3, lv, r, H.set a (.inr (ci, o.2.set f v)), t) else none
    | none => none) := rfl
theorem gx_l4 {x y z pc : Nat} {k : Int32} {lv : rm_L} {r : List Value} {H : rm_H} {t : rm_T} : rm_newq (some (1, x, y, z)) (pc, lv, Value.int k :: r, H, t) = (if decide (k < 0) || decide (1000000 < k.toNatClampNeg) || decide (z < 5) then none else some (pc + 3, lv, .ref H.length :: r, H ++ [.inl (z, k.toNatClampNeg, .inr (.inr (.inr (.inr (fun _ => none)))))], rm_up t 1 k.toNatClampNeg)) := rfl
theorem gx_heap_s {M : rm_M} {L : Nat} {ys : Nat → Int32} {i : Instr} {n dep : Nat} {q r : gx_N} (hq : gx_in q) (h : gx_heap M i n q = some (r, dep)) : gx_in r ∧ ∃ g, rm_op M.2.2.1 M.2.2.2.2.1 M.2.2.2.2.2 M.2.1 L ys i n = some g ∧ g (gx_rv q) = some (gx_rv r) := by
  obtain ⟨pc, lv, st, rl, nn, t⟩ := q
  have hn : nn = rl.length := hq
  clear hq
  have newA : ∀ ty : Nat, gx_newa ty (pc, lv, st, rl, nn, t) = some (r, dep) → gx_in r ∧ rm_newa ty (gx_rv (pc, lv, st, rl, nn, t)) = some (gx_rv r) := fun ty h => by
    unfold gx_newa at h
    dsimp only at h
    split at h
    · rename_i k r'
      split at h
      · cases h
      · rename_i c
        cases h
        refine ⟨by show nn + 1 = _; simp [hn], ?_⟩
        unfold rm_newa gx_rv gx_q
        dsimp only
        rw [if_neg c]
        simp [hn]
    · cases h
  unfold gx_heap at h
  split at h
  · rename_i k
    refine (fun z : gx_in r ∧ rm_getfA (rm_lk M.2.1 k) (gx_rv (pc, lv, st, rl, nn, t)) = some (gx_rv r) => ⟨z.1, _, rfl, z.2⟩) ?_
    unfold gx_getf at h
    dsimp only at h
    split at h
    · rename_i ci f x a r' e1
      split at h
      · rename_i o ho
        split at h
        · rename_i c
          split at h
          · rename_i v hv
            cases h
            refine ⟨hn, ?_⟩
            rw [gx_obj_s hn] at ho
            rw [e1]
            unfold gx_rv gx_q
            dsimp only
            rw [gx_l1, ho]
            dsimp only
            rw [if_pos c, hv]
          · cases h
        · cases h
      · cases h
    · cases h
  · rename_i k
    refine (fun z : gx_in r ∧ rm_putfA M.2.2.2.2.1 M.2.2.2.2.2 (rm_lk M.2.1 k) (gx_rv (pc, lv, st, rl, nn, t)) = some (gx_rv r) => ⟨z.1, _, rfl, z.2⟩) ?_
    unfold gx_putf at h
    dsimp only at h
    split at h
    · rename_i ci f v a r' e1
      split at h
      · rename_i o ho
        split at h
        · rename_i c
          cases h
          rw [gx_obj_s hn] at ho
          refine ⟨by show nn = _; rw [List.length_set]; exact hn, ?_⟩
          rw [e1]
          unfold gx_rv gx_q
          dsimp only
          rw [gx_l2, ho]
          dsimp only
          rw [if_pos c, gx_set_s hn (gx_obj_lt ho)]
        · cases h
      · cases h
    · rename_i ci f w v a r' e1
      split at h
      · rename_i o ho
        split at h
        · rename_i c
          cases h
          rw [gx_obj_s hn] at ho
          refine ⟨by show nn = _; rw [List.length_set]; exact hn, ?_⟩
          rw [e1]
          unfold gx_rv gx_q
          dsimp only
          rw [gx_l3, ho]
          dsimp only
          rw [if_pos c, gx_set_s hn (gx_obj_lt ho)]
        · cases h
      · cases h
    · cases h
  · rename_i k
    refine (fun z : gx_in r ∧ rm_new (rm_lk M.2.1 k) (gx_rv (pc, lv, st, rl, nn, t)) = some (gx_rv r) => ⟨z.1, _, rfl, z.2⟩) ?_
    unfold gx_new at h
    dsimp only at h
    split at h
    · rename_i ci N x e
      cases h
      refine ⟨by show nn + 1 = _; simp [hn], ?_⟩
      unfold rm_new gx_rv gx_q
      rw [e]
      simp [hn]
    · cases h
  · rename_i k
    refine (fun z : gx_in r ∧ rm_newq (rm_lk M.2.1 k) (gx_rv (pc, lv, st, rl, nn, t)) = some (gx_rv r) => ⟨z.1, _, rfl, z.2⟩) ?_
    unfold gx_newq at h
    dsimp only at h
    split at h
    · rename_i x y z' k' r' e
      split at h
      · cases h
      · rename_i c
        cases h
        refine ⟨by show nn + 1 = _; simp [hn], ?_⟩
        unfold gx_rv gx_q
        rw [e]
        dsimp only
        rw [gx_l4, if_neg c]
        simp [hn]
    · cases h
  · exact ⟨(newA 0 h).1, _, rfl, (newA 0 h).2⟩
  · exact ⟨(newA 1 h).1, _, rfl, (newA 1 h).2⟩
  · exact ⟨(newA 2 h).1, _, rfl, (newA 2 h).2⟩
  · exact ⟨(newA 3 h).1, _, rfl, (newA 3 h).2⟩
  · exact ⟨(newA 4 h).1, _, rfl, (newA 4 h).2⟩
  · refine (fun z : gx_in r ∧ rm_iast 0 .int (gx_rv (pc, lv, st, rl, nn, t)) = some (gx_rv r) => ⟨z.1, _, rfl, z.2⟩) ?_
    unfold gx_iast at h
    dsimp only at h
    split at h
    · rename_i x i' a r' e
      split at h
      · rename_i t' n' f ho
        split at h
        · rename_i c
          cases h
          rw [gx_arr_s hn] at ho
          refine ⟨by show nn = _; rw [List.length_set]; exact hn, ?_⟩
          unfold rm_iast gx_rv gx_q
          dsimp only
          rw [ho]
          dsimp only
          rw [if_pos c, gx_set_s hn (gx_arr_lt ho)]
        · cases h
      · cases h
    · cases h
  · refine (fun z : gx_in r ∧ rm_aast (gx_rv (pc, lv, st, rl, nn, t)) = some (gx_rv r) => ⟨z.1, _, rfl, z.2⟩) ?_
    unfold gx_aast at h
    dsimp only at h
    split at h
    · rename_i v i' a r' e
      split at h
      · rename_i t' n' f o ho1 ho2
        split at h
        · rename_i c
          cases h
          rw [gx_arr_s hn] at ho1
          rw [gx_obj_s hn] at ho2
          refine ⟨by show nn = _; rw [List.length_set]; exact hn, ?_⟩
          unfold rm_aast gx_rv gx_q
          dsimp only
          rw [ho1, ho2]
          dsimp only
          rw [if_pos c, gx_set_s hn (gx_arr_lt ho1)]
        · cases h
      · cases h
    · cases h
  · cases h
