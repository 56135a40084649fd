/-! the row of primes -/
def prz (z : Int) : Prop := 2000000000 ≤ z ∧ z ≤ 2147483647
theorem prz_i {z : Int} (h : prz z) : iR z := ⟨by have := h.1; omega, by have := h.2; omega⟩
theorem prz_all : rm_zV.all (fun v => decide (2000000000 ≤ v.toInt ∧ v.toInt ≤ 2147483647)) = true := by decide +kernel
theorem prz_len : rm_zV.length = rm_zN := by decide +kernel
theorem prz_at {i : Nat} (h : i < rm_zN) : prz ((rm_zV.getD i 0).toInt) := by
  have hl : i < rm_zV.length := by rw [prz_len]; exact h
  have z := List.all_eq_true.mp prz_all (rm_zV.getD i 0) (by
    rw [List.getD_eq_getElem?_getD, List.getElem?_eq_getElem hl]
    exact List.getElem_mem hl)
  have z2 : 2000000000 ≤ (rm_zV.getD i 0).toInt ∧ (rm_zV.getD i 0).toInt ≤ 2147483647 := of_decide_eq_true z
  exact z2
section PRI
variable {L : Nat} {ys : Nat → Int32} {d N : Nat} {M : rm_M} {pc pc' : Nat} {lv : List (Nat × im_V)} {st : List im_V} {s : im_S} {Q : im_Re → Prop}
theorem pq_prl (hf : rm_find M.1 pc = some (.arraylength, 1)) (hp : pc + 1 = pc') (h : pq L ys d N M (pc', lv, (0, 44) :: st, s) Q) : pq L ys d N M (pc, lv, (4, 6) :: st, s) Q := by
  subst hp
  exact pq_x hf rfl rfl (fun _ => rfl) h
theorem pq_pra {i : Int} (hf : rm_find M.1 pc = some (.iaload, 1)) (hp : pc + 1 = pc') (h : ∀ z : Int, prz z → pq L ys d N M (pc', lv, (0, z) :: st, s) Q) : pq L ys d N M (pc, lv, (0, i) :: (4, 6) :: st, s) Q := by
  subst hp
  refine pq_i (C := im_in i rm_zN = true) (s' := s) hf rfl rfl (fun lv r hr => ?_) (fun hc => h ((rm_zV.getD i.toNat 0).toInt) (prz_at ?_))
  · have hr : (if im_in i rm_zN then some (pc + 1, lv, (0, (rm_zV.getD i.toNat 0).toInt) :: st, s) else none) = some r := hr
    split at hr
    · rename_i c
      cases hr; exact ⟨rfl, c⟩
    · cases hr
  · unfold im_in at hc
    simp at hc
    omega
end PRI
