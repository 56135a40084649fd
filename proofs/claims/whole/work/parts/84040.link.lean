/-! BOTH SIDES HOLD THE SAME ROOTS -/
def cltt (c c' : Rat → Int) : Prop := cut c ∧ cut c' ∧ lft9 c c'
theorem LINK {s s' : im_S} {A : Nat → List Int} {m N n n' nb : Nat} {p b : Nat → List Int} {M T : Nat → Nat → Nat} {cs ds : Nat → Rat → Int} {oc od : Nat → Nat} {f : Nat → Int} {F : Nat → List Int} {lo hi : Nat → Rat} (h : CVl s A m N n p M cs oc) (h' : RVl s' A m n' nb b T f F lo hi ds od) : N = n' ∧ ∀ k, k < N → cs (oc k) = ds (od k) := by
  obtain ⟨rc, rr⟩ := RV_rise h'
  have cc : ∀ k, k < N → cut (cs (oc k)) := fun k hk => (CV_at h hk).2.2.1
  refine rows_eq (lt := cltt) (fun a b x y => ?_) (fun a x => ?_) (a := fun k => cs (oc k)) (b := fun k => ds (od k)) (fun i j ij jn => ⟨cc i (by omega), cc j jn, h.2.2.2.2.1 i j ij jn⟩) (fun i j ij jn => ⟨rc i (by omega), rc j jn, rr i j ij jn⟩) (fun i hi => ?_) (fun i hi => ?_)
  · obtain ⟨ca, cb, l1⟩ := x
    obtain ⟨_, _, z, hz⟩ := y
    have n1 : b z ≠ 1 := by rcases hz with q | q | q <;> omega
    have := lft9_r ca cb l1 n1
    rcases hz with q | q | q <;> omega
  · exact lft9_ne x.1 x.2.2 rfl
  · obtain ⟨o1, o2, c1, o, b1, b2, b3, _⟩ := CV_at h hi
    obtain ⟨e', e1, e2⟩ := SYS_ex h.2.2.2.2.2.2.1 h'.2.2.1 c1 b1 b3
    obtain ⟨R, r1, r2, r3⟩ := h'.2.2.2.2.1.2.1 e' e1 _ c1 e2
    obtain ⟨k, k1, k2⟩ := h'.2.2.2.2.2.2.2 R r1
    exact ⟨k, k1, by (try dsimp only); rw [k2]; exact r3⟩
  · obtain ⟨o1, o2, c1, _, j, j1, j2, j3⟩ := RV_at h' hi
    obtain ⟨e', e1, e2⟩ := SYS_ex h'.2.2.1 h.2.2.2.2.2.2.1 c1 j1 j3
    obtain ⟨R, r1, r2, r3⟩ := h.2.1.2.2.1.2.1 e' e1 (Or.inl e1) _ c1 e2
    obtain ⟨k, k1, k2⟩ := h.2.2.2.2.2.1 R r1
    exact ⟨k, k1, by (try dsimp only); rw [k2]; exact r3⟩
/-- and each counts as often -/
theorem LINK_mu {s s' : im_S} {A : Nat → List Int} {m N n n' nb : Nat} {p b : Nat → List Int} {M T : Nat → Nat → Nat} {cs ds : Nat → Rat → Int} {oc od : Nat → Nat} {f : Nat → Int} {F : Nat → List Int} {lo hi : Nat → Rat} (h : CVl s A m N n p M cs oc) (h' : RVl s' A m n' nb b T f F lo hi ds od) {k i o j : Nat} (hk : k < N) (hi : i < m) (ho : o < n) (ho' : rtc (p o) (cs (oc k))) (hj : j < nb) (hj' : rtc (b j) (ds (od k))) : M o i = T j i := by
  have e := (LINK h h').2 k hk
  rw [← e] at hj'
  exact SYS_eq h.2.2.2.2.2.2.1 h'.2.2.1 (CV_at h hk).2.2.1 ho hj ho' hj' hi
