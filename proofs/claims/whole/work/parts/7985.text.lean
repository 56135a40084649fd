/-! STEPS ON THE TEXTS -/
section PQ4
variable {L : Nat} {ys : Nat → Int32} {d N : Nat} {M : rm_M} {pc pc' : Nat} {lv : List (Nat × im_V)} {st : List im_V} {s : im_S} {Q : im_Re → Prop}
theorem pq_tx {i n : Int} (hf : rm_find M.1 pc = some (.baload, 1)) (hp : pc + 1 = pc') (h : ∀ z : Int, iR z → pq L ys d N M (pc', lv, (0, z) :: st, s) Q) : pq L ys d N M (pc, lv, (0, i) :: (4, n) :: st, s) Q := by
  subst hp
  refine pq_i (C := True) (s' := s) hf rfl rfl (fun lv r hr => ?_) (fun _ => h (((rm_sB.getD ((n.toNat - 3) / 2) []).getD i.toNat 0).toInt) ?_)
  · have hr : (if n.toNat = 3 ∨ n.toNat = 5 then (if im_in i (rm_sN.getD ((n.toNat - 3) / 2) 0) then some (pc + 1, lv, (0, ((rm_sB.getD ((n.toNat - 3) / 2) []).getD i.toNat 0).toInt) :: st, s) else none) else none) = some r := hr
    split at hr
    · split at hr
      · cases hr; exact ⟨rfl, trivial⟩
      · cases hr
    · cases hr
  · exact ⟨by have := ((rm_sB.getD ((n.toNat - 3) / 2) []).getD i.toNat 0).le_toInt; omega, by have := ((rm_sB.getD ((n.toNat - 3) / 2) []).getD i.toNat 0).toInt_lt; omega⟩
theorem pq_cF {idx mi na kd : Nat} {n : Int} {av rest st0 : List im_V} (hf : rm_find M.1 pc = some (.invokevirtual idx, 3)) (hl : rm_lk M.2.1 idx = some (3, mi, na, 4)) (hp : pc + 3 = pc') (e1 : st0.drop na = (4, n) :: rest) (e2 : (st0.take na).reverse = av) (h : ∀ res, im_call gG rm_P L ys d mi ((4, n) :: av) s res → pq L ys d N M (pc', lv, res.1.toList ++ rest, res.2) Q) : pq L ys d N M (pc, lv, st0, s) Q := by
  subst hp
  intro lv2 hs
  refine p0_ck hf rfl (fun r hr => ?_)
  dsimp only at hr
  rw [hl] at hr
  obtain ⟨n', rest', h0, _, _, res, h1, h2⟩ : ∃ n rest, st0.drop na = (4, n) :: rest ∧ (n = 2 ∨ n = 4) ∧ im_cs rest ≤ 8 ∧ ∃ res, im_call gG rm_P L ys d mi ((4, n) :: (st0.take na).reverse) s res ∧ r = im_aft (pc, lv2, st0, s) rest res := hr
  rw [e1] at h0
  cases h0
  rw [e2] at h1
  subst h2
  exact h res h1 lv2 hs
theorem pq_cFI {idx mi na t : Nat} {n : Int} {av rest st0 : List im_V} {R : Int → im_S → Prop} (hf : rm_find M.1 pc = some (.invokevirtual idx, 3)) (hl : rm_lk M.2.1 idx = some (3, mi, na, 4)) (hp : pc + 3 = pc') (e1 : st0.drop na = (4, n) :: rest) (e2 : (st0.take na).reverse = av) (hc : pcI L ys t d mi ((4, n) :: av) s R) (h : ∀ z s', R z s' → pq L ys d N M (pc', lv, (t, z) :: rest, s') Q) : pq L ys d N M (pc, lv, st0, s) Q :=
  pq_cF (kd := 0) hf hl hp e1 e2 (fun res hr => by
    obtain ⟨z, h1, h2⟩ := hc res hr
    rw [h1]
    exact h _ _ h2)
end PQ4
