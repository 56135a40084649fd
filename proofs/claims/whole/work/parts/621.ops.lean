/-! THE REFERENCE'S LONG NUMBERS: limbs, sgn, copyTo, keep, again, less, whole, weigh, compare -/
theorem limbs_ok {s : im_S} {x X : Int} {Q : Int → im_S → Prop} (h : num s x X) (hQ : Q (lim X) s) : W_limbs x s Q := by
  unfold W_limbs
  have z := num_lim h
  have b := h.2.1
  have a := h.1
  refine ⟨⟨a, by omega⟩, fun c => ?_, fun v hv => ?_⟩
  · rw [if_neg c] at z
    rw [z]
    exact ⟨by omega, by omega⟩
  · rw [hv, z]; exact hQ
theorem sgn_ok {s : im_S} {x X : Int} {Q : Int → im_S → Prop} (h : num s x X) (hQ : Q (sg X) s) : W_sgn x s Q := by
  unfold W_sgn
  have z := num_sg h
  have b := h.2.1
  have a := h.1
  refine ⟨⟨a, by omega⟩, fun v hv => ?_⟩
  rw [hv, z]; exact hQ
theorem copyTo_ok {s : im_S} {x to X : Int} {Q : im_S → Prop} (h : num s x X) (h0 : 0 ≤ to) (h1 : to + lim X < 700000) (hd : to ≤ x ∨ x + lim X < to) (hQ : ∀ s', ag to (to + lim X + 1) s s' → num s' to X → wgf s' 24 = wgf s 24 → Q s') : W_copyTo x to s Q := by
  unfold W_copyTo
  refine limbs_ok h ?_
  have hx0 := h.1
  have hx1 := h.2.1
  refine ⟨fun a => 0 ≤ a.1 ∧ a.1 ≤ lim X + 1 ∧ ag to (to + lim X + 1) s a.2 ∧ wgf a.2 24 = wgf s 24 ∧ (∀ j : Int, 0 ≤ j → j < a.1 → wga a.2 597 (to + j) = wga s 597 (x + j)) ∧ (∀ j : Int, a.1 ≤ j → j ≤ lim X → wga a.2 597 (x + j) = wga s 597 (x + j)), fun a => (lim X + 1 - a.1).toNat, ?_, ?_⟩
  · exact ⟨Int.le_refl 0, by show (0 : Int) ≤ _; omega, ag_rfl, rfl, fun j a b => by dsimp only at b; omega, fun _ _ _ => rfl⟩
  · rintro ⟨k, s1⟩ ⟨i1, i2, i3, i4, i5, i6⟩
    dsimp only at i1 i2 i3 i4 i5 i6 ⊢
    unfold W_copyTo_9
    refine ⟨fun c => hQ s1 i3 (num_co h h0 h1 (fun j a b => i5 j a (by omega))) i4, fun c => ⟨⟨by omega, by omega⟩, ⟨by omega, by omega⟩, fun s2 e => ?_⟩⟩
    subst e
    refine ⟨⟨by omega, by omega⟩, ⟨by omega, by omega, ag_pa i3 (by omega) (by omega) (by omega), i4, fun j a b => ?_, fun j a b => ?_⟩, by omega⟩
    · by_cases e : j = k
      · subst e
        rw [wg_same]
        exact i6 j (by omega) (by omega)
      · rw [wg_ne (by omega) (by omega) (by omega)]
        exact i5 j a (by omega)
    · rw [wg_ne (by omega) (by omega) (by omega)]
      exact i6 j (by omega) b
theorem keep_ka {s0 s : im_S} {mark x X : Int} {Q : Int → im_S → Prop} (hs : st s0 s) (h : num s x X) (hm : mark = wgf s0 24) (h0 : 0 ≤ mark) (hx : mark ≤ x) (hr : mark + lim X + 1 ≤ 684000) (hQ : ∀ s', st s0 s' → na s' mark X → wgf s' 24 = mark + lim X + 1 → Q mark s') : W_keep mark x s Q := by
  unfold W_keep
  refine copyTo_ok h h0 (by omega) (Or.inl hx) (fun s1 a1 n1 t1 => limbs_ok n1 ⟨⟨by omega, by omega⟩, ⟨by omega, by omega⟩, fun s2 e => ?_⟩)
  subst e
  have a2 : ag mark 684000 s0 s1 := ag_tr (by rw [hm]; exact hs.1) (ag_mono a1 (Int.le_refl _) hr)
  have tt : wgf (wpf s1 24 (mark + lim X + 1)) 24 = mark + lim X + 1 := wf_same
  refine hQ _ ⟨?_, ?_⟩ ⟨?_, ?_⟩ tt
  · rw [← hm]; exact ag_pf a2 (Or.inl rfl)
  · rw [tt, ← hm]; omega
  · exact num_co n1 n1.1 n1.2.1 (fun _ _ _ => rfl)
  · rw [tt]; exact Or.inl (by omega)
theorem again_ka {s : im_S} {x X : Int} {Q : Int → im_S → Prop} (h : na s x X) (h0 : 0 ≤ wgf s 24) (hr : wgf s 24 + lim X + 1 ≤ 684000) (hQ : ∀ s', st s s' → na s' (wgf s 24) X → wgf s' 24 = wgf s 24 + lim X + 1 → Q (wgf s 24) s') : W_again x s Q := by
  unfold W_again
  refine copyTo_ok h.1 h0 (by omega) (by have := h.2; omega) (fun s1 a1 n1 t1 => limbs_ok n1 ⟨⟨by omega, by omega⟩, ⟨by omega, by omega⟩, fun s2 e => ?_⟩)
  subst e
  have tt : wgf (wpf s1 24 (wgf s 24 + lim X + 1)) 24 = wgf s 24 + lim X + 1 := wf_same
  refine hQ _ ⟨?_, ?_⟩ ⟨?_, ?_⟩ tt
  · exact ag_pf (ag_mono a1 (Int.le_refl _) hr) (Or.inl rfl)
  · rw [tt]; omega
  · exact num_co n1 n1.1 n1.2.1 (fun _ _ _ => rfl)
  · rw [tt]; exact Or.inl (by omega)
/-- the sign's place alone is written -/
theorem num_sw {s : im_S} {x X Y w : Int} (h : num s x X) (hY : Y.natAbs = X.natAbs) (hw : w = (if Y < 0 then -(lim Y : Int) else lim Y)) : num (wpa s 597 x w) x Y := by
  have e := lim_abs hY
  have h0 := h.1
  refine ⟨h.1, by rw [e]; exact h.2.1, by rw [wg_same]; exact hw, ?_, ?_⟩
  · rw [e]
    intro k a b
    rw [wg_ne (by omega) (by omega) (by omega)]
    exact h.2.2.2.1 k a b
  · rw [e, hY, dv_co (s := s) (x := x) (fun k a b => wg_ne (by omega) (by omega) (by omega))]
    exact h.2.2.2.2
theorem less_ka {s : im_S} {x X : Int} {Q : Int → im_S → Prop} (h : na s x X) (h0 : 0 ≤ wgf s 24) (hr : wgf s 24 + lim X + 1 ≤ 684000) (hQ : ∀ s', st s s' → na s' (wgf s 24) (-X) → wgf s' 24 = wgf s 24 + lim X + 1 → Q (wgf s 24) s') : W_less x s Q := by
  unfold W_less
  refine again_ka h h0 hr (fun s1 z1 n1 t1 => ⟨⟨h0, by omega⟩, ?_, ⟨h0, by omega⟩, fun s2 e => ?_⟩)
  · have := n1.1.2.2.1
    have b := n1.1.2.1
    rw [this]
    split <;> exact ⟨by omega, by omega⟩
  · have hn : num s2 (wgf s 24) (-X) := by
      rw [e]
      refine num_sw n1.1 (Int.natAbs_neg X) ?_
      rw [n1.1.2.2.1, lim_neg]
      by_cases c : X < 0
      · rw [if_pos c, if_neg (by omega)]; omega
      · rw [if_neg c]
        by_cases c2 : X = 0
        · subst c2; rfl
        · rw [if_pos (by omega)]
    have tt : wgf s2 24 = wgf s 24 + lim X + 1 := by rw [e]; exact t1
    refine hQ s2 ⟨?_, by omega⟩ ⟨hn, Or.inl (by rw [lim_neg]; omega)⟩ tt
    rw [e]
    exact ag_pa z1.1 h0 (Int.le_refl _) (by omega)
theorem whole_ka {s : im_S} {v : Int} {Q : Int → im_S → Prop} (hv : -9223372036854775807 ≤ v ∧ v ≤ 9223372036854775807) (h0 : 0 ≤ wgf s 24) (hr : wgf s 24 + lim v + 1 ≤ 684000) (hQ : ∀ s', st s s' → na s' (wgf s 24) v → wgf s' 24 = wgf s 24 + lim v + 1 → Q (wgf s 24) s') : W_whole v s Q := by
  unfold W_whole
  refine ⟨fun _ => ⟨by omega, by omega⟩, fun u hu => ?_⟩
  have hu2 : u = (v.natAbs : Int) := by rw [hu]; split <;> omega
  refine ⟨fun a => 0 ≤ a.1 ∧ ∃ n : Nat, a.2.1 = n ∧ ag (wgf s 24) 684000 s a.2.2 ∧ dg a.2.2 (wgf s 24) n ∧ dv a.2.2 (wgf s 24) n + a.1 * 1000000000 ^ n = u ∧ n ≤ lim v ∧ (a.1 = 0 → n = 0 ∨ wga a.2.2 597 (wgf s 24 + n) ≠ 0), fun a => a.1.toNat, ?_, ?_⟩
  · exact ⟨by show 0 ≤ u; omega, 0, rfl, ag_rfl, fun k a b => by omega, by show 0 + u * 1 = u; omega, by omega, fun _ => Or.inl rfl⟩
  · rintro ⟨l, n0, s1⟩ ⟨i1, n, i2, i3, i4, i5, i6, i7⟩
    dsimp only at i1 i2 i3 i4 i5 i6 i7 ⊢
    subst i2
    unfold W_whole_22
    have bb := dv_b i4
    refine ⟨fun c => ⟨fun _ => ⟨by omega, by omega⟩, fun w hw => ⟨⟨h0, by omega⟩, fun s2 e2 => ⟨⟨by omega, by omega⟩, ⟨by omega, by omega⟩, fun s3 e3 => ?_⟩⟩⟩, fun c => ?_⟩
    · have el : l = 0 := by omega
      subst el
      have i7 := i7 rfl
      have ev : dv s2 (wgf s 24) n = (v.natAbs : Int) := by
        rw [e2, dv_co (s := s1) (x := wgf s 24) (fun k a b => wg_ne (by omega) (by omega) (by omega))]
        omega
      have nn : num s2 (wgf s 24) v := by
        refine num_mk (n := n) h0 (by omega) ?_ ?_ (v < 0) ?_ ⟨fun c => by omega, fun c => by omega⟩
        · intro k a b
          rw [e2, wg_ne (by omega) (by omega) (by omega)]
          exact i4 k a b
        · rcases i7 with q | q
          · exact Or.inl q
          · by_cases q2 : n = 0
            · exact Or.inl q2
            · right
              rw [e2, wg_ne (by omega) (by omega) (by omega)]
              exact q
        · rw [e2, wg_same]
          by_cases c : v < 0
          · exact Or.inl ⟨c, by rw [hw, if_neg (by omega)]⟩
          · exact Or.inr ⟨c, by rw [hw, if_pos (by omega)]⟩
      have el : lim v = n := by
        have z1 := nn.2.2.1
        rw [e2, wg_same, hw] at z1
        split at z1 <;> split at z1 <;> omega
      have tt : wgf s3 24 = wgf s 24 + n + 1 := by rw [e3]; exact wf_same
      have n3 : num s3 (wgf s 24) v := by rw [e3]; exact num_co nn nn.1 nn.2.1 (fun _ _ _ => rfl)
      refine hQ s3 ⟨?_, by omega⟩ ⟨n3, Or.inl (by omega)⟩ (by omega)
      rw [e3, e2]
      exact ag_pf (ag_pa i3 h0 (Int.le_refl _) (by omega)) (Or.inl rfl)
    · have e1 : l.tmod 1000000000 = l % 1000000000 := Int.tmod_eq_emod_of_nonneg i1
      have e2 : l.tdiv 1000000000 = l / 1000000000 := Int.tdiv_eq_ediv_of_nonneg i1
      rw [e1, e2]
      have hn : n < lim v := by
        have z := lim_lt v
        have z2 : ((1000000000 ^ n : Nat) : Int) ≤ ((v.natAbs : Nat) : Int) := by
          rw [Int.natCast_pow]
          have z4 : (0 : Int) ≤ 1000000000 ^ n := Int.pow_nonneg (by decide)
          have z5 : 1 * (1000000000 : Int) ^ n ≤ l * 1000000000 ^ n := Int.mul_le_mul_of_nonneg_right (by omega) z4
          have z6 : ((1000000000 : Nat) : Int) ^ n = (1000000000 : Int) ^ n := rfl
          omega
        have z3 := Int.ofNat_le.1 z2
        exact (Nat.pow_lt_pow_iff_right (a := 1000000000) (by decide)).1 (by omega)
      refine ⟨⟨by omega, by omega⟩, ⟨by omega, by omega⟩, ⟨by omega, by omega⟩, fun s2 e => ?_⟩
      subst e
      refine ⟨⟨by dsimp only; omega, n + 1, by dsimp only; omega, ag_pa i3 (by omega) (by omega) (by omega), fun k a b => ?_, ?_, by omega, fun q => Or.inr ?_⟩, by dsimp only; omega⟩
      · by_cases e : k = n + 1
        · subst e
          rw [wg_same]
          omega
        · rw [wg_ne (by omega) (by omega) (by omega)]
          exact i4 k a (by omega)
      · show dv _ _ n + wga _ 597 (wgf s 24 + ((n : Int) + 1)) * 1000000000 ^ n + _ * 1000000000 ^ (n + 1) = u
        rw [wg_same, dv_co (s := s1) (x := wgf s 24) (fun k a b => wg_ne (by omega) (by omega) (by omega)), Int.pow_succ, ← i5]
        have z : l % 1000000000 + 1000000000 * (l / 1000000000) = l := Int.emod_add_mul_ediv l 1000000000
        generalize l % 1000000000 = r at z ⊢
        generalize l / 1000000000 = q at z ⊢
        generalize (1000000000 : Int) ^ n = P
        subst z
        dsimp only
        rw [Int.add_mul]
        have z2 : 1000000000 * q * P = q * (P * 1000000000) := by rw [Int.mul_comm P, ← Int.mul_assoc, Int.mul_comm q]
        omega
      · have e : ((n + 1 : Nat) : Int) = (n : Int) + 1 := by omega
        rw [e, wg_same]
        omega
theorem dv_hi {s : im_S} {x y : Int} {k : Nat} : ∀ {j : Nat}, (∀ i : Int, (k : Int) < i → i ≤ ((k + j : Nat) : Int) → wga s 597 (x + i) = wga s 597 (y + i)) → dv s x (k + j) - dv s y (k + j) = dv s x k - dv s y k
  | 0, _ => rfl
  | j + 1, h => by
    show dv s x (k + j) + wga s 597 (x + (((k + j : Nat) : Int) + 1)) * 1000000000 ^ (k + j) - (dv s y (k + j) + wga s 597 (y + (((k + j : Nat) : Int) + 1)) * 1000000000 ^ (k + j)) = _
    rw [h (((k + j : Nat) : Int) + 1) (by omega) (by omega)]
    have z := dv_hi (j := j) (fun i a b => h i a (by omega))
    omega
theorem weigh_ok {s : im_S} {x y X Y : Int} {Q : Int → im_S → Prop} (hx : num s x X) (hy : num s y Y) (hQ : Q (sg ((X.natAbs : Int) - Y.natAbs)) s) : W_weigh x y s Q := by
  unfold W_weigh
  refine limbs_ok hx (limbs_ok hy ?_)
  have x0 := hx.1
  have y0 := hy.1
  have x1 := hx.2.1
  have y1 := hy.2.1
  refine ⟨fun e => ?_, fun e v hv => ?_⟩
  · have e2 : lim X = lim Y := by omega
    refine ⟨fun a => 0 ≤ a.1 ∧ a.1 ≤ lim X ∧ a.2 = s ∧ (∀ j : Int, a.1 < j → j ≤ lim X → wga s 597 (x + j) = wga s 597 (y + j)), fun a => a.1.toNat, ?_, ?_⟩
    · exact ⟨by dsimp only; omega, by dsimp only; omega, rfl, fun j a b => by dsimp only at a; omega⟩
    · rintro ⟨k, s1⟩ ⟨i1, i2, i3, i4⟩
      dsimp only at i1 i2 i3 i4 ⊢
      subst i3
      obtain ⟨n, rfl⟩ := Int.eq_ofNat_of_zero_le i1
      obtain ⟨j, hj⟩ : ∃ j, lim X = n + j := ⟨lim X - n, by omega⟩
      have zd := dv_hi (s := s1) (x := x) (y := y) (k := n) (j := j) (fun i a b => i4 i a (by omega))
      have zx := hx.2.2.2.2
      have zy := hy.2.2.2.2
      rw [← e2] at zy
      rw [hj] at zx zy
      have he : ∀ (c : ¬ ((n : Int) ≤ 0)), ¬ (wga s1 597 (x + (n : Int)) = wga s1 597 (y + (n : Int))) → (if wga s1 597 (y + (n : Int)) ≤ wga s1 597 (x + (n : Int)) then (1 : Int) else -1) = sg ((X.natAbs : Int) - Y.natAbs) := by
        intro c d
        obtain ⟨m, rfl⟩ : ∃ m, n = m + 1 := ⟨n - 1, by omega⟩
        have ex : dv s1 x (m + 1) = dv s1 x m + wga s1 597 (x + ((m : Int) + 1)) * 1000000000 ^ m := rfl
        have ey : dv s1 y (m + 1) = dv s1 y m + wga s1 597 (y + ((m : Int) + 1)) * 1000000000 ^ m := rfl
        have bx := dv_b (s := s1) (x := x) (n := m) (fun i a b => hx.2.2.2.1 i a (by omega))
        have by1 := dv_b (s := s1) (x := y) (n := m) (fun i a b => hy.2.2.2.1 i a (by omega))
        rw [ex, ey] at zd
        have em : ((m + 1 : Nat) : Int) = (m : Int) + 1 := by omega
        rw [em] at d ⊢
        generalize wga s1 597 (x + ((m : Int) + 1)) = p at zd d ⊢
        generalize wga s1 597 (y + ((m : Int) + 1)) = q at zd d ⊢
        generalize (1000000000 : Int) ^ m = P at zd bx by1
        by_cases c2 : q ≤ p
        · have z1 : (q + 1) * P ≤ p * P := Int.mul_le_mul_of_nonneg_right (by omega) (by omega)
          rw [Int.add_mul] at z1
          rw [if_pos c2]
          unfold sg
          rw [if_neg (by omega), if_neg (by omega)]
        · have z1 : (p + 1) * P ≤ q * P := Int.mul_le_mul_of_nonneg_right (by omega) (by omega)
          rw [Int.add_mul] at z1
          rw [if_neg c2]
          unfold sg
          rw [if_pos (by omega)]
      unfold W_weigh_34
      refine ⟨fun c => ?_, fun c => ⟨⟨by omega, by omega⟩, ⟨by omega, by omega⟩, fun d => ?_, fun d => ⟨⟨by omega, by omega⟩, ⟨by omega, by omega, rfl, fun i a b => ?_⟩, by omega⟩⟩⟩
      · have c2 : n = 0 := by omega
        subst c2
        unfold W_weigh_66
        refine ⟨fun d => absurd rfl d, fun d => absurd rfl d, fun v hv => ?_⟩
        rw [if_neg (fun d => d rfl)] at hv
        have z0 : dv s1 x 0 - dv s1 y 0 = 0 := rfl
        have z : sg ((X.natAbs : Int) - Y.natAbs) = 0 := by
          unfold sg
          rw [if_neg (by omega), if_pos (by omega)]
        rw [hv, ← z]; exact hQ
      · unfold W_weigh_66
        refine ⟨fun _ => ⟨by omega, by omega⟩, fun _ => ⟨by omega, by omega⟩, fun v hv => ?_⟩
        rw [if_pos (by omega), he c d] at hv
        rw [hv]; exact hQ
      · by_cases e : i = n
        · subst e; exact d
        · exact i4 i (by omega) b
  · have z : v = sg ((X.natAbs : Int) - Y.natAbs) := by
      rw [hv]
      unfold sg
      by_cases c : (lim Y : Int) ≤ lim X
      · rw [if_pos c]
        have : ¬ X.natAbs ≤ Y.natAbs := fun q => by have := lim_mono q; omega
        rw [if_neg (by omega), if_neg (by omega)]
      · rw [if_neg c]
        have : ¬ Y.natAbs ≤ X.natAbs := fun q => by have := lim_mono q; omega
        rw [if_pos (by omega)]
    rw [z]; exact hQ
theorem compare_ok {s : im_S} {x y X Y : Int} {Q : Int → im_S → Prop} (hx : num s x X) (hy : num s y Y) (hQ : Q (sg (X - Y)) s) : W_compare x y s Q := by
  unfold W_compare
  refine sgn_ok hx (sgn_ok hy ⟨fun e => ⟨fun c => weigh_ok hx hy ?_, fun c => weigh_ok hx hy ⟨?_, ?_⟩⟩, fun e v hv => ?_⟩)
  · unfold W_compare_53
    have z : sg ((X.natAbs : Int) - Y.natAbs) = sg (X - Y) := by
      unfold sg at e c ⊢
      have : 0 ≤ X ∧ 0 ≤ Y := by
        split at e <;> split at e <;> (try split at e) <;> (try split at e) <;> omega
      have e2 : (X.natAbs : Int) - Y.natAbs = X - Y := by omega
      rw [e2]
    rw [z]; exact hQ
  · unfold sg
    split
    · exact ⟨by decide, by decide⟩
    · split <;> exact ⟨by decide, by decide⟩
  · unfold W_compare_53
    have z : -sg ((X.natAbs : Int) - Y.natAbs) = sg (X - Y) := by
      unfold sg at e c ⊢
      have : X < 0 ∧ Y < 0 := by
        split at e <;> split at e <;> (try split at e) <;> (try split at e) <;> omega
      have e2 : (X.natAbs : Int) - Y.natAbs = -(X - Y) := by omega
      rw [e2]
      split <;> split <;> (try split) <;> (try split) <;> omega
    rw [z]; exact hQ
  · unfold W_compare_53
    have z : v = sg (X - Y) := by
      rw [hv]
      unfold sg at e ⊢
      split at e <;> split at e <;> (try split at e) <;> (try split at e) <;> split <;> (try split) <;> (try split) <;> omega
    rw [z]; exact hQ
