/-! a switch -/
section PQ5
variable {L : Nat} {ys : Nat → Int32} {d N : Nat} {M : rm_M} {pc pc' : Nat} {lv : List (Nat × im_V)} {st : List im_V} {s : im_S} {Q : im_Re → Prop}
theorem pq_tab {dflt lo hi x : Int} {offs : Array Int} {n : Nat} {off : Int} (i : Nat) (hf : rm_find M.1 pc = some (.tableswitch dflt lo hi offs, n)) (hx : x = lo + i) (h1 : ¬ (lo + (i : Int) < lo ∨ hi < lo + (i : Int))) (ho : offs.toList[i]? = some off) (ht : rm_tgt pc off = some pc') (h : pq L ys d N M (pc', lv, st, s) Q) : pq L ys d N M (pc, lv, (0, x) :: st, s) Q := by
  subst hx
  refine pq_x hf rfl rfl (fun lv => ?_) h
  show (if lo + (i : Int) < lo ∨ hi < lo + (i : Int) then _ else (match offs.toList[(lo + (i : Int) - lo).toNat]? with
        | some off => (match rm_tgt pc off with
          | some g => some (g, lv, st, s)
          | none => none)
        | none => none)) = _
  rw [if_neg h1]
  have e : (lo + (i : Int) - lo).toNat = i := by omega
  rw [e, ho]
  show (match rm_tgt pc off with
          | some g => some (g, lv, st, s)
          | none => none) = _
  rw [ht]
theorem pq_tabD {dflt lo hi x : Int} {offs : Array Int} {n : Nat} (hf : rm_find M.1 pc = some (.tableswitch dflt lo hi offs, n)) (h1 : x < lo ∨ hi < x) (ht : rm_tgt pc dflt = some pc') (h : pq L ys d N M (pc', lv, st, s) Q) : pq L ys d N M (pc, lv, (0, x) :: st, s) Q := by
  refine pq_x hf rfl rfl (fun lv => ?_) h
  show (if x < lo ∨ hi < x then (match rm_tgt pc dflt with
        | some g => some (g, lv, st, s)
        | none => none) else _) = _
  rw [if_pos h1, ht]
end PQ5
