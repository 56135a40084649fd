/-! STEPS ON THE REFERENCE'S OBJECT, what a run leaves if it ends -/
def uR (s : im_S) : Prop := ∀ f c : Nat, vF[f]? = some (3, c) → s.1 582 f = (c : Int)
def jR (s : im_S) : Prop := jI s ∧ uR s
section PQR
variable {L : Nat} {ys : Nat → Int32} {d N : Nat} {M : rm_M} {pc pc' : Nat} {lv : List (Nat × im_V)} {st : List im_V} {s : im_S} {Q : im_Re → Prop}
theorem pr_gr {idx f w v : Nat} (hf : rm_find M.1 pc = some (.getfield idx, 3)) (hl : rm_lk M.2.1 idx = some (0, 10, f, w)) (hp : pc + 3 = pc') (ht : (cty.getD 10 [])[f]? = some 3) (hv : vF[f]? = some (3, v)) (hj : jR s) (h : pq L ys d N M (pc', lv, (2, (v : Int)) :: st, s) Q) : pq L ys d N M (pc, lv, (2, ((582 : Nat) : Int)) :: st, s) Q := by
  subst hp
  refine pq_i (C := True) hf rfl rfl (fun lv r hr => ?_) (fun _ => h)
  rw [hl] at hr
  obtain ⟨tys, t', v', e1, e2, e3, e4⟩ := im_getf_inv hr
  have e5 := hj.2 f v hv
  rw [cty_ok e1, ht] at e2
  cases e2
  unfold im_fo at e3
  rw [if_neg (by decide), if_pos rfl, e5, if_neg (by omega)] at e3
  cases e3
  exact ⟨e4, trivial⟩
theorem pr_pX {idx f w : Nat} {v : im_V} (hf : rm_find M.1 pc = some (.putfield idx, 3)) (hl : rm_lk M.2.1 idx = some (0, 10, f, w)) (hp : pc + 3 = pc') (ht : (match vF[f]? with | some (3, _) => false | _ => true) = true) (hj : jR s) (h : ∀ s', s' = cpf s 582 f v.2 → jR s' → pq L ys d N M (pc', lv, st, s') Q) : pq L ys d N M (pc, lv, v :: (2, ((582 : Nat) : Int)) :: st, s) Q := by
  refine pq_pX hf hl hp rfl (fun e => absurd e (by decide)) (fun e => absurd e (by decide)) hj.1 (fun s' e j => h s' e ⟨j, fun f' c' hc => ?_⟩)
  subst e
  rw [cpf_ne (fun z => ?_)]
  · exact hj.2 f' c' hc
  · rw [z.2] at hc
    rw [hc] at ht
    cases ht
theorem pr_is {a : Nat} {i x : Int} (hf : rm_find M.1 pc = some (.iastore, 1)) (hp : pc + 1 = pc') (n1 : a ≠ 309) (n2 : a ≠ 554) (hj : jR s) (h : 0 ≤ i → i < gln a → ∀ s', s' = cpa s a i x → jR s' → pq L ys d N M (pc', lv, st, s') Q) : pq L ys d N M (pc, lv, (0, x) :: (0, i) :: (2, (a : Int)) :: st, s) Q :=
  pq_is hf hp n1 n2 hj.1 (fun h1 h2 s' e j => h h1 h2 s' e ⟨j, by subst e; exact hj.2⟩)
theorem pr_bs {a : Nat} {i x : Int} (hf : rm_find M.1 pc = some (.bastore, 1)) (hp : pc + 1 = pc') (n1 : a ≠ 309) (n2 : a ≠ 554) (hj : jR s) (h : 0 ≤ i → ∀ s', s' = cpa s a i x → jR s' → pq L ys d N M (pc', lv, st, s') Q) : pq L ys d N M (pc, lv, (0, x) :: (0, i) :: (2, (a : Int)) :: st, s) Q :=
  pq_bs hf hp n1 n2 hj.1 (fun h1 s' e j => h h1 s' e ⟨j, by subst e; exact hj.2⟩)
theorem pr_ls {a : Nat} {i x : Int} (hf : rm_find M.1 pc = some (.lastore, 1)) (hp : pc + 1 = pc') (hj : jR s) (h : 0 ≤ i → i < gln a → ∀ s', s' = cpa s a i x → jR s' → pq L ys d N M (pc', lv, st, s') Q) : pq L ys d N M (pc, lv, (1, x) :: (0, i) :: (2, (a : Int)) :: st, s) Q :=
  pq_ls hf hp hj.1 (fun h1 h2 s' e j => h h1 h2 s' e ⟨j, by subst e; exact hj.2⟩)
end PQR
