/-! STEPS THAT THE REST OF THE CLASS WANTS: bytes, signs of the text -/
def c8 (x : Int) : Int := (Int32.ofInt x).toInt8.toInt32.toInt
def c16 (x : Int) : Int := ((Int32.ofInt x).toUInt32 % 65536).toInt32.toInt
theorem c8_r (x : Int) : iR (c8 x) := ⟨by have := (Int32.ofInt x).toInt8.toInt32.le_toInt; unfold c8; omega, by have := (Int32.ofInt x).toInt8.toInt32.toInt_lt; unfold c8; omega⟩
theorem c16_r (x : Int) : iR (c16 x) := ⟨by have := ((Int32.ofInt x).toUInt32 % 65536).toInt32.le_toInt; unfold c16; omega, by have := ((Int32.ofInt x).toUInt32 % 65536).toInt32.toInt_lt; unfold c16; omega⟩
section PQ3
variable {L : Nat} {ys : Nat → Int32} {d N : Nat} {M : rm_M} {pc pc' : Nat} {lv : List (Nat × im_V)} {st : List im_V} {s : im_S} {Q : im_Re → Prop}
theorem pq_i2b {x : Int} (hf : rm_find M.1 pc = some (.i2b, 1)) (hp : pc + 1 = pc') (h : pq L ys d N M (pc', lv, (0, c8 x) :: st, s) Q) : pq L ys d N M (pc, lv, (0, x) :: st, s) Q := by
  subst hp
  exact pq_x hf rfl rfl (fun lv => rfl) h
theorem pq_i2c {x : Int} (hf : rm_find M.1 pc = some (.i2c, 1)) (hp : pc + 1 = pc') (h : pq L ys d N M (pc', lv, (0, c16 x) :: st, s) Q) : pq L ys d N M (pc, lv, (0, x) :: st, s) Q := by
  subst hp
  exact pq_x hf rfl rfl (fun lv => rfl) h
theorem pq_ca {a : Nat} {i : Int} (hf : rm_find M.1 pc = some (.caload, 1)) (hp : pc + 1 = pc') (h : 0 ≤ i → iR (cga s a i) → pq L ys d N M (pc', lv, (0, cga s a i) :: st, s) Q) : pq L ys d N M (pc, lv, (0, i) :: (2, (a : Int)) :: st, s) Q := by
  subst hp
  refine pq_i (C := 0 ≤ i ∧ iR (cga s a i)) hf rfl rfl (fun lv r hr => ?_) (fun c => h c.1 c.2)
  replace hr : (match gG[a]? with
    | some (3, n, _) => if im_in i n && im_iI (s.2 a i.toNat) then some (pc + 1, lv, (0, s.2 a i.toNat) :: st, s) else none
    | _ => none) = some r := hr
  split at hr
  · split at hr
    · rename_i e
      rw [Bool.and_eq_true] at e
      cases hr
      have e1 := in_inv e.1
      have e2 := e.2
      unfold im_iI at e2
      simp only [Bool.and_eq_true, decide_eq_true_eq] at e2
      exact ⟨rfl, e1.1, e2⟩
    · cases hr
  · cases hr
theorem pq_cs {a : Nat} {i x : Int} (hf : rm_find M.1 pc = some (.castore, 1)) (hp : pc + 1 = pc') (n1 : a ≠ 309) (n2 : a ≠ 554) (hj : jI s) (h : 0 ≤ i → i < gln a → ∀ s', s' = cpa s a i x → jI s' → pq L ys d N M (pc', lv, st, s') Q) : pq L ys d N M (pc, lv, (0, x) :: (0, i) :: (2, (a : Int)) :: st, s) Q := by
  subst hp
  refine pq_i (C := 0 ≤ i ∧ i < gln a ∧ jI (cpa s a i x)) hf rfl rfl (fun lv r hr => ?_) (fun c => h c.1 c.2.1 _ rfl c.2.2)
  replace hr : (match gG[a]? with
    | some (t' + 1, n, _) => if decide (t' = 2) && im_in i n && im_fit 2 x then some (pc + 1, lv, st, s.1, im_up s.2 a i.toNat x) else none
    | _ => none) = some r := hr
  split at hr
  · rename_i t n z hG
    split at hr
    · rename_i e
      simp only [Bool.and_eq_true, decide_eq_true_eq] at e
      cases hr
      have e1 := in_inv e.1.2
      exact ⟨rfl, e1.1, by rw [gln_eq hG]; exact e1.2, jI_pa hj hG (by omega) n1 n2⟩
    · cases hr
  · cases hr
/-- a call that calls itself: one depth less inside -/
theorem pq_start_s {mi : Nat} {av : List im_V} {Q : im_Re → Prop} (hM : rm_P mi = M) (h : ∀ N, pq L ys d N M (0, im_args 0 av, [], s) Q) (res : im_Re) (hc : im_call gG rm_P L ys (d + 1) mi av s res) : Q res := by
  obtain ⟨_, f, h2⟩ : (lg_sl (av.map im_cv)).length ≤ (rm_P mi).2.2.1 ∧ ∃ f, im_loop gG (im_call gG rm_P L ys d) rm_P (rm_P mi) L ys f (0, im_args 0 av, [], s) res := hc
  rw [hM] at h2
  exact h f _ (im_sub_refl _) f (Nat.le_refl _) res h2
theorem pc_0 {mi : Nat} {av : List im_V} {res : im_Re} (hc : im_call gG rm_P L ys 0 mi av s res) : False := by cases hc
end PQ3
