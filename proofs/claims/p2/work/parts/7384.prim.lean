/-! the row of primes -/
section PRI
variable {L : Nat} {ys : Nat → Int32} {d N : Nat} {M : rm_M} {pc pc' : Nat} {lv : List (Nat × im_V)} {st : List im_V} {s : im_S} {Q : im_Re → Prop}
theorem pq_prl (hf : rm_find M.1 pc = some (.arraylength, 1)) (hp : pc + 1 = pc') (h : pq L ys d N M (pc', lv, (0, 44) :: st, s) Q) : pq L ys d N M (pc, lv, (4, 6) :: st, s) Q := by
  subst hp
  exact pq_x hf rfl rfl (fun _ => rfl) h
theorem pq_pra {i : Int} (hf : rm_find M.1 pc = some (.iaload, 1)) (hp : pc + 1 = pc') (h : ∀ z : Int, iR z → pq L ys d N M (pc', lv, (0, z) :: st, s) Q) : pq L ys d N M (pc, lv, (0, i) :: (4, 6) :: st, s) Q := by
  subst hp
  refine pq_i (C := True) (s' := s) hf rfl rfl (fun lv r hr => ?_) (fun _ => h ((rm_zV.getD i.toNat 0).toInt) ⟨by have := (rm_zV.getD i.toNat 0).le_toInt; omega, by have := (rm_zV.getD i.toNat 0).toInt_lt; omega⟩)
  have hr : (if im_in i rm_zN then some (pc + 1, lv, (0, (rm_zV.getD i.toNat 0).toInt) :: st, s) else none) = some r := hr
  split at hr
  · cases hr; exact ⟨rfl, trivial⟩
  · cases hr
end PRI
