/-! THE REFERENCE'S LONG NUMBERS: fitsSo, digit -/
theorem em_fix (v : Int) : (if 0 ≤ v.tmod 1000000000 then v.tmod 1000000000 else v.tmod 1000000000 + 1000000000) = v % 1000000000 := by
  rcases Int.le_total 0 v with h | h
  · have e : v.tmod 1000000000 = v % 1000000000 := Int.tmod_eq_emod_of_nonneg h
    rw [e, if_pos (by omega)]
  · obtain ⟨u, rfl⟩ : ∃ u, v = -u := ⟨-v, by omega⟩
    have e : (-u).tmod 1000000000 = -(u % 1000000000) := by rw [Int.neg_tmod, Int.tmod_eq_emod_of_nonneg (by omega)]
    rw [e]
    split <;> omega
theorem em_div {v : Int} (h : v < 1000000000) : (v % 1000000000 - v).tdiv 1000000000 = -(v / 1000000000) ∧ 0 ≤ -(v / 1000000000) := by
  have z : v % 1000000000 - v = (-(v / 1000000000)) * 1000000000 := by omega
  have z2 : 0 ≤ -(v / 1000000000) := by omega
  refine ⟨?_, z2⟩
  rw [z, Int.tdiv_eq_ediv_of_nonneg (by omega), Int.mul_ediv_cancel _ (by decide)]
theorem ar_bo (S b P D A p so d e r q : Int) (h : S - b * P = D - so * A) (hv : r + 1000000000 * q = d - b - e) (he : e = so * p) : S + r * P - (-q) * (P * 1000000000) = D + d * P - so * (A + p * P) := by
  subst he
  grind
/-- one step of a subtraction with a borrow -/
theorem bo_v {d b e : Int} (hd : 0 ≤ d ∧ d < 1000000000) (hb : 0 ≤ b ∧ b ≤ 1000000000) (he : 0 ≤ e ∧ e ≤ 999999998000000001) : -1000000000000000000 ≤ d - b - e ∧ d - b - e < 1000000000 ∧ -((d - b - e) / 1000000000) ≤ 1000000000 := by
  omega
theorem fitsSo_ok {s : im_S} {r j y so : Int} {m : Nat} {Q : Int → im_S → Prop} (hw0 : 0 ≤ r + j - 1) (hw1 : r + j + m < 684000) (hr : 0 ≤ r ∧ r < 684000) (hj : 0 ≤ j) (hy0 : 0 ≤ y) (hy1 : y + m < 700000) (hd : dg s (r + j - 1) (m + 1)) (hdy : dg s y m) (hs : 0 ≤ so ∧ so < 1000000000) (hQ : ∀ v : Int, (v = 1 ∧ so * dv s y m ≤ dv s (r + j - 1) (m + 1)) ∨ (v = 0 ∧ dv s (r + j - 1) (m + 1) < so * dv s y m) → Q v s) : W_fitsSo r j y m so s Q := by
  unfold W_fitsSo
  refine ⟨fun a => a.2.2 = s ∧ ∃ t : Nat, a.2.1 = (t : Int) + 1 ∧ t ≤ m + 1 ∧ (0 ≤ a.1 ∧ a.1 ≤ 1000000000) ∧ ∃ S : Int, (0 ≤ S ∧ S < 1000000000 ^ t) ∧ S - a.1 * 1000000000 ^ t = dv s (r + j - 1) t - so * dm s y m t, fun a => (m + 2 - a.2.1).toNat, ⟨rfl, 0, rfl, by omega, ⟨(by decide : (0 : Int) ≤ 0), (by decide : (0 : Int) ≤ 1000000000)⟩, 0, ⟨by decide, by decide⟩, ?_⟩, ?_⟩
  · show (0 : Int) - 0 * _ = 0 - so * 0
    omega
  · rintro ⟨b, k, s1⟩ ⟨i0, t, i1, i2, i3, S, i4, i5⟩
    dsimp only at i0 i1 i2 i3 i4 i5 ⊢
    subst i0 i1
    unfold W_fitsSo_6
    refine ⟨⟨by omega, by omega⟩, fun c v hv => hQ v ?_, fun c => ⟨⟨by omega, by omega⟩, ⟨by omega, by omega⟩, ⟨by omega, by omega⟩, ?_⟩⟩
    · have et : t = m + 1 := by omega
      subst et
      have em : dm s1 y m (m + 1) = dv s1 y m := dm_ge (j := 1)
      rw [em] at i5
      generalize so * dv s1 y m = Z at *
      generalize (1000000000 : Int) ^ (m + 1) = P at *
      by_cases cb : b = 0
      · subst cb
        rw [if_neg (fun q => q rfl)] at hv
        exact Or.inl ⟨hv, by omega⟩
      · rw [if_pos cb] at hv
        have z : 1 * P ≤ b * P := Int.mul_le_mul_of_nonneg_right (by omega) (by omega)
        exact Or.inr ⟨hv, by omega⟩
    · rw [show r + j + ((t : Int) + 1) - 1 = r + j - 1 + ((t : Int) + 1) by omega]
      have bd := hd ((t : Int) + 1) (by omega) (by omega)
      obtain ⟨p, hp⟩ : ∃ p : Int, p = if (t : Int) + 1 ≤ m then wga s1 597 (y + ((t : Int) + 1)) else 0 := ⟨_, rfl⟩
      have bp : 0 ≤ p ∧ p < 1000000000 := by
        rw [hp]
        split
        · exact hdy _ (by omega) (by assumption)
        · omega
      have be := mul_dd hs bp
      refine ⟨⟨by omega, by omega⟩, fun a => ⟨by omega, by omega⟩, fun a => ?_, fun e he => ?_⟩
      · rw [if_pos (by omega)] at hp
        rw [← hp]
        exact ⟨by omega, by omega⟩
      · have ee : e = so * p := by
          rw [he, hp]
          by_cases q : (t : Int) + 1 ≤ m
          · rw [if_pos q, if_neg (by omega)]
          · rw [if_neg q, if_pos (by omega), Int.mul_zero]
        rw [← ee] at be
        have bv := bo_v bd i3 be
        have hv := Int.emod_add_mul_ediv (wga s1 597 (r + j - 1 + ((t : Int) + 1)) - b - e) 1000000000
        have ar := ar_bo S b (1000000000 ^ t) (dv s1 (r + j - 1) t) (dm s1 y m t) p so _ e _ _ i5 hv ee
        generalize wga s1 597 (r + j - 1 + ((t : Int) + 1)) - b - e = v at *
        have ef := em_fix v
        have ed := em_div (v := v) bv.2.1
        refine ⟨⟨by omega, by omega⟩, fun _ => ?_, fun w hw => ?_⟩
        · have z1 := Int.tmod_lt_of_pos v (b := 1000000000) (by decide)
          have z2 := Int.lt_tmod_of_pos v (b := 1000000000) (by decide)
          exact ⟨by omega, by omega⟩
        · rw [ef] at hw
          subst hw
          rw [ed.1]
          refine ⟨⟨by omega, by omega⟩, ⟨by omega, by omega⟩, ⟨rfl, t + 1, by dsimp only; omega, by omega, ⟨ed.2, by omega⟩, S + v % 1000000000 * 1000000000 ^ t, ?_, ?_⟩, by dsimp only; omega⟩
          · rw [Int.pow_succ]
            have bm : 0 ≤ v % 1000000000 ∧ v % 1000000000 < 1000000000 := ⟨by omega, by omega⟩
            generalize v % 1000000000 = w at bm ⊢
            generalize (1000000000 : Int) ^ t = P at *
            have z1 : 0 ≤ w * P := Int.mul_nonneg bm.1 (by omega)
            have z2 : w * P ≤ 999999999 * P := Int.mul_le_mul_of_nonneg_right (by omega) (by omega)
            omega
          · rw [Int.pow_succ]
            show _ = (dv s1 (r + j - 1) t + wga s1 597 (r + j - 1 + ((t : Int) + 1)) * 1000000000 ^ t) - so * (dm s1 y m t + (if (t : Int) + 1 ≤ m then wga s1 597 (y + ((t : Int) + 1)) else 0) * 1000000000 ^ t)
            rw [← hp]
            exact ar
theorem digit_160 {s : im_S} {r j y so : Int} {m : Nat} {Q : Int → im_S → Prop} (hw0 : 0 ≤ r + j - 1) (hw1 : r + j + m < 684000) (hr : 0 ≤ r ∧ r < 684000) (hj : 0 ≤ j) (hy0 : 0 ≤ y) (hy1 : y + m < 700000) (hy2 : y + m < r + j ∨ 684000 ≤ y) (hd : dg s (r + j - 1) (m + 1)) (hdy : dg s y m) (hs : 0 ≤ so ∧ so < 1000000000) (hf : so * dv s y m ≤ dv s (r + j - 1) (m + 1)) (hQ : ∀ s' : im_S, ag (r + j) (r + j + m + 1) s s' → wgf s' 24 = wgf s 24 → dg s' (r + j - 1) (m + 1) → dv s' (r + j - 1) (m + 1) = dv s (r + j - 1) (m + 1) - so * dv s y m → Q so s') : wloop (fun (K : Int × Int × im_S → Prop) (a : Int × Int × im_S) => W_digit_160 K r j y m so a.1 a.2.1 a.2.2 Q) (0, 1, s) := by
  refine ⟨fun a => ag (r + j) (r + j + m + 1) s a.2.2 ∧ wgf a.2.2 24 = wgf s 24 ∧ dg a.2.2 (r + j - 1) (m + 1) ∧ ∃ t : Nat, a.2.1 = (t : Int) + 1 ∧ t ≤ m + 1 ∧ (0 ≤ a.1 ∧ a.1 ≤ 1000000000) ∧ (∀ i : Int, (t : Int) < i → i ≤ (m : Int) + 1 → wga a.2.2 597 (r + j - 1 + i) = wga s 597 (r + j - 1 + i)) ∧ dv a.2.2 (r + j - 1) t - a.1 * 1000000000 ^ t = dv s (r + j - 1) t - so * dm s y m t, fun a => (m + 2 - a.2.1).toNat, ⟨ag_rfl, rfl, hd, 0, rfl, by omega, ⟨(by decide : (0 : Int) ≤ 0), (by decide : (0 : Int) ≤ 1000000000)⟩, fun _ _ _ => rfl, ?_⟩, ?_⟩
  · show (0 : Int) - 0 * _ = 0 - so * 0
    omega
  · rintro ⟨b, k, s1⟩ ⟨i0, i9, i8, t, i1, i2, i3, i4, i5⟩
    dsimp only at i0 i1 i2 i3 i4 i5 i8 i9 ⊢
    subst i1
    unfold W_digit_160
    refine ⟨⟨by omega, by omega⟩, fun c => ⟨⟨by omega, by omega⟩, ?_⟩, fun c => ⟨⟨by omega, by omega⟩, ⟨by omega, by omega⟩, ⟨by omega, by omega⟩, ?_⟩⟩
    · have et : t = m + 1 := by omega
      subst et
      have em : dm s y m (m + 1) = dv s y m := dm_ge (j := 1)
      rw [em] at i5
      have bb := dv_b i8
      refine hQ s1 i0 i9 i8 ?_
      generalize so * dv s y m = Z at *
      generalize (1000000000 : Int) ^ (m + 1) = P at *
      by_cases cb : b = 0
      · subst cb
        omega
      · have z : 1 * P ≤ b * P := Int.mul_le_mul_of_nonneg_right (by omega) (by omega)
        omega
    · rw [show r + j + ((t : Int) + 1) - 1 = r + j - 1 + ((t : Int) + 1) by omega]
      have bd := i8 ((t : Int) + 1) (by omega) (by omega)
      have fd := i4 ((t : Int) + 1) (by omega) (by omega)
      obtain ⟨p, hp⟩ : ∃ p : Int, p = if (t : Int) + 1 ≤ m then wga s 597 (y + ((t : Int) + 1)) else 0 := ⟨_, rfl⟩
      have fy : (t : Int) + 1 ≤ m → wga s1 597 (y + ((t : Int) + 1)) = wga s 597 (y + ((t : Int) + 1)) := fun a => ag_m i0 (by omega) (by omega)
      have bp : 0 ≤ p ∧ p < 1000000000 := by
        rw [hp]
        split
        · exact hdy _ (by omega) (by assumption)
        · omega
      have be := mul_dd hs bp
      refine ⟨⟨by omega, by omega⟩, fun a => ⟨by omega, by omega⟩, fun a => ?_, fun e he => ?_⟩
      · rw [fy (by omega)]
        rw [if_pos (by omega)] at hp
        rw [← hp]
        exact ⟨by omega, by omega⟩
      · have ee : e = so * p := by
          rw [he, hp]
          by_cases q : (t : Int) + 1 ≤ m
          · rw [if_pos q, if_neg (by omega), fy q]
          · rw [if_neg q, if_pos (by omega), Int.mul_zero]
        rw [← ee] at be
        have bv := bo_v bd i3 be
        have hv := Int.emod_add_mul_ediv (wga s1 597 (r + j - 1 + ((t : Int) + 1)) - b - e) 1000000000
        have ar := ar_bo (dv s1 (r + j - 1) t) b (1000000000 ^ t) (dv s (r + j - 1) t) (dm s y m t) p so _ e _ _ i5 hv ee
        rw [fd] at ar bv hv ⊢
        generalize hvv : wga s 597 (r + j - 1 + ((t : Int) + 1)) - b - e = v at *
        have ef := em_fix v
        have ed := em_div (v := v) bv.2.1
        refine ⟨⟨by omega, by omega⟩, fun _ => ?_, fun w hw => ?_⟩
        · have z1 := Int.tmod_lt_of_pos v (b := 1000000000) (by decide)
          have z2 := Int.lt_tmod_of_pos v (b := 1000000000) (by decide)
          exact ⟨by omega, by omega⟩
        · rw [ef] at hw
          subst hw
          rw [ed.1]
          refine ⟨⟨by omega, by omega⟩, ⟨by omega, by omega⟩, ⟨by omega, by omega⟩, ⟨by omega, by omega⟩, ⟨by omega, by omega⟩, fun s2 e2 => ⟨⟨by omega, by omega⟩, ⟨?_, ?_, ?_, t + 1, by dsimp only; omega, by omega, ⟨ed.2, by dsimp only; omega⟩, ?_, ?_⟩, by dsimp only; omega⟩⟩
          · rw [e2]; exact ag_pa i0 (by omega) (by omega) (by omega)
          · rw [e2]; exact i9
          · intro i a b
            rw [e2]
            by_cases e : i = (t : Int) + 1
            · rw [e, wg_same]; omega
            · rw [wg_ne (by omega) (by omega) (by omega)]; exact i8 i a b
          · intro i a b
            rw [e2, wg_ne (by omega) (by omega) (by omega)]
            exact i4 i (by omega) b
          · rw [Int.pow_succ]
            show (dv s2 (r + j - 1) t + wga s2 597 (r + j - 1 + ((t : Int) + 1)) * 1000000000 ^ t) - _ = (dv s (r + j - 1) t + wga s 597 (r + j - 1 + ((t : Int) + 1)) * 1000000000 ^ t) - so * (dm s y m t + (if (t : Int) + 1 ≤ m then wga s 597 (y + ((t : Int) + 1)) else 0) * 1000000000 ^ t)
            rw [← hp, e2, wg_same, dv_co (s := s1) (x := r + j - 1) (fun i a b => wg_ne (by omega) (by omega) (by omega))]
            exact ar
theorem ar_hi {q Y W P h t : Int} (hP : 0 < P) (hq : 0 ≤ q) (h1 : q * Y ≤ W) (h2 : t * P ≤ Y) (h3 : W < (h + 1) * P) : q * t ≤ h := by
  have a : q * (t * P) ≤ q * Y := Int.mul_le_mul_of_nonneg_left h2 hq
  have b : (q * t) * P < (h + 1) * P := by rw [Int.mul_assoc]; omega
  have c := Int.lt_of_mul_lt_mul_right b (by omega)
  omega
/-- from two heads of a division: what the quotient lies between -/
theorem ar_lo {W P h t Y : Int} (hP : 0 < P) (ht : 0 < t) (hh : 0 ≤ h) (h2 : Y < (t + 1) * P) (h3 : h * P ≤ W) : h / (t + 1) * Y ≤ W := by
  have e : 0 ≤ h / (t + 1) := Int.ediv_nonneg hh (by omega)
  have a : h / (t + 1) * Y ≤ h / (t + 1) * ((t + 1) * P) := Int.mul_le_mul_of_nonneg_left (by omega) e
  have b : h / (t + 1) * (t + 1) ≤ h := Int.ediv_mul_le h (by omega)
  have c : h / (t + 1) * (t + 1) * P ≤ h * P := Int.mul_le_mul_of_nonneg_right b (by omega)
  rw [Int.mul_assoc] at c
  omega
theorem ar_up {W P h t Y : Int} (hP : 0 < P) (ht : 0 < t) (hh : 0 ≤ h) (h2 : t * P ≤ Y) (h3 : W < (h + 1) * P) : W < (h / t + 1) * Y := by
  have b : h < (h / t + 1) * t := Int.lt_ediv_add_one_mul_self h ht
  have c : (h + 1) * P ≤ (h / t + 1) * t * P := Int.mul_le_mul_of_nonneg_right (by omega) (by omega)
  have z : 0 ≤ h / t := Int.ediv_nonneg hh (by omega)
  have d : (h / t + 1) * (t * P) ≤ (h / t + 1) * Y := Int.mul_le_mul_of_nonneg_left h2 (by omega)
  rw [Int.mul_assoc] at c
  omega
theorem digit_ok {s : im_S} {r j y : Int} {m : Nat} {Q : Int → im_S → Prop} (hw0 : 0 ≤ r + j - 1) (hw1 : r + j + m < 684000) (hr : 0 ≤ r ∧ r < 684000) (hj : 0 ≤ j) (hy0 : 0 ≤ y) (hy1 : y + m < 700000) (hy2 : y + m < r + j ∨ 684000 ≤ y) (hd : dg s (r + j - 1) (m + 1)) (hdy : dg s y m) (hm : 1 ≤ m) (hyt : 1 ≤ wga s 597 (y + m)) (hlt : dv s (r + j - 1) (m + 1) < dv s y m * 1000000000) (hQ : ∀ (q : Int) (s' : im_S), 0 ≤ q ∧ q < 1000000000 → ag (r + j) (r + j + m + 1) s s' → wgf s' 24 = wgf s 24 → dg s' (r + j - 1) (m + 1) → dv s' (r + j - 1) (m + 1) = dv s (r + j - 1) (m + 1) - q * dv s y m → dv s' (r + j - 1) (m + 1) < dv s y m → Q q s') : W_digit r j y m s Q := by
  obtain ⟨n, rfl⟩ : ∃ n, m = n + 1 := ⟨m - 1, by omega⟩
  obtain ⟨W, hW⟩ : ∃ W, W = dv s (r + j - 1) (n + 1 + 1) := ⟨_, rfl⟩
  obtain ⟨Y, hY⟩ : ∃ Y, Y = dv s y (n + 1) := ⟨_, rfl⟩
  have b1 := hd ((n : Int) + 1) (by omega) (by omega)
  have b2 := hd ((n : Int) + 1 + 1) (by omega) (by omega)
  have by1 := hdy ((n : Int) + 1) (by omega) (by omega)
  have e1 : ((n + 1 : Nat) : Int) = (n : Int) + 1 := by omega
  have w1 : W = dv s (r + j - 1) n + wga s 597 (r + j - 1 + ((n : Int) + 1)) * 1000000000 ^ n + wga s 597 (r + j - 1 + ((n : Int) + 1 + 1)) * 1000000000 ^ (n + 1) := by
    rw [hW]
    show dv s (r + j - 1) n + wga s 597 (r + j - 1 + ((n : Int) + 1)) * 1000000000 ^ n + wga s 597 (r + j - 1 + (((n + 1 : Nat) : Int) + 1)) * 1000000000 ^ (n + 1) = _
    rw [e1]
  have y1 : Y = dv s y n + wga s 597 (y + ((n : Int) + 1)) * 1000000000 ^ n := by rw [hY]; rfl
  have c1 := dv_b (s := s) (x := r + j - 1) (n := n) (fun i a b => hd i a (by omega))
  have c2 := dv_b (s := s) (x := y) (n := n) (fun i a b => hdy i a (by omega))
  have pp := pw_p n
  rw [e1] at hyt
  rw [Int.pow_succ] at w1
  unfold W_digit
  rw [show r + j + ((n + 1 : Nat) : Int) = r + j - 1 + ((n : Int) + 1 + 1) by omega, show r + j - 1 + ((n : Int) + 1 + 1) - 1 = r + j - 1 + ((n : Int) + 1) by omega, e1]
  obtain ⟨h, hh⟩ : ∃ h, h = wga s 597 (r + j - 1 + ((n : Int) + 1 + 1)) * 1000000000 + wga s 597 (r + j - 1 + ((n : Int) + 1)) := ⟨_, rfl⟩
  rw [← hh]
  have hb : 0 ≤ h ∧ h ≤ 999999999999999999 := by omega
  have w2 : W = dv s (r + j - 1) n + h * 1000000000 ^ n := by rw [w1, hh]; grind
  generalize wga s 597 (y + ((n : Int) + 1)) = yt at *
  generalize dv s y n = Yl at *
  generalize dv s (r + j - 1) n = Wl at *
  generalize (1000000000 : Int) ^ n = P at *
  have h3 : W < (h + 1) * P := by rw [Int.add_mul]; omega
  have h4 : h * P ≤ W := by omega
  have h5 : yt * P ≤ Y := by omega
  have h6 : Y < (yt + 1) * P := by rw [Int.add_mul]; omega
  have h7 : 0 < Y := by
    have : 1 * P ≤ yt * P := Int.mul_le_mul_of_nonneg_right hyt (by omega)
    omega
  have lo1 := ar_lo (W := W) (P := P) (h := h) (t := yt) (Y := Y) (by omega) (by omega) hb.1 h6 h4
  have up1 := ar_up (W := W) (P := P) (h := h) (t := yt) (Y := Y) (by omega) (by omega) hb.1 h5 h3
  have t1 : h.tdiv (yt + 1) = h / (yt + 1) := Int.tdiv_eq_ediv_of_nonneg hb.1
  have t2 : h.tdiv yt = h / yt := Int.tdiv_eq_ediv_of_nonneg hb.1
  have t3 : 0 ≤ h / (yt + 1) := Int.ediv_nonneg hb.1 (by omega)
  rw [t1, t2]
  refine ⟨⟨by omega, by omega⟩, ⟨by omega, by omega⟩, ⟨by omega, by omega⟩, ⟨by omega, by omega⟩, ⟨by omega, by omega⟩, ⟨by omega, by omega⟩, by omega, ⟨by omega, by omega⟩, by omega, fun lo hlo up hup => ?_⟩
  have l1 : 0 ≤ lo ∧ lo * Y ≤ W := by
    rw [hlo]
    split
    · exact ⟨t3, lo1⟩
    · have z : 999999999 * Y ≤ h / (yt + 1) * Y := Int.mul_le_mul_of_nonneg_right (by omega) (by omega)
      exact ⟨by decide, by omega⟩
  have u1 : up ≤ 999999999 ∧ W < (up + 1) * Y := by
    rw [hup]
    split
    · exact ⟨by assumption, up1⟩
    · rw [← hY, ← hW] at hlt
      exact ⟨by decide, by omega⟩
  rw [← hY, ← hW] at hQ
  refine ⟨fun a => a.2.2 = s ∧ 0 ≤ a.1 ∧ a.2.1 ≤ 999999999 ∧ a.1 * Y ≤ W ∧ W < (a.2.1 + 1) * Y, fun a => (a.2.1 - a.1).toNat, ⟨rfl, l1.1, u1.1, l1.2, u1.2⟩, ?_⟩
  rintro ⟨low, high, s1⟩ ⟨i1, i2, i3, i4, i5⟩
  dsimp only at i1 i2 i3 i4 i5 ⊢
  subst i1
  have i6 : low < high + 1 := Int.lt_of_mul_lt_mul_right (Int.lt_of_le_of_lt i4 i5) (by omega)
  unfold W_digit_103
  refine ⟨fun c => ?_, fun c => ⟨⟨by omega, by omega⟩, ⟨by omega, by omega⟩, ?_⟩⟩
  · have eh : high = low := by omega
    subst eh
    rw [← e1]
    refine digit_160 (so := high) hw0 hw1 hr hj hy0 hy1 hy2 hd hdy ⟨i2, by omega⟩ (by rw [← hY, ← hW]; exact i4) (fun s' a1 a2 a3 a4 => ?_)
    rw [← hY, ← hW] at a4
    refine hQ high s' ⟨i2, by omega⟩ a1 a2 a3 a4 ?_
    rw [a4]
    rw [Int.add_mul] at i5
    omega
  · have em : (low + high + 1).tdiv 2 = (low + high + 1) / 2 := Int.tdiv_eq_ediv_of_nonneg (by omega)
    rw [em, ← e1]
    refine fitsSo_ok (so := (low + high + 1) / 2) hw0 hw1 hr hj hy0 hy1 hd hdy ⟨by omega, by omega⟩ (fun v hv => ⟨fun _ => ⟨by omega, by omega⟩, fun a ha b hb2 => ?_⟩)
    rw [← hY, ← hW] at hv
    rcases hv with ⟨hv, hf⟩ | ⟨hv, hf⟩
    · rw [if_neg (by omega)] at ha hb2
      rw [ha, hb2]
      exact ⟨⟨rfl, by dsimp only; omega, by dsimp only; omega, hf, i5⟩, by dsimp only; omega⟩
    · rw [if_pos hv] at ha hb2
      rw [ha, hb2]
      refine ⟨⟨rfl, by dsimp only; omega, by dsimp only; omega, i4, ?_⟩, by dsimp only; omega⟩
      dsimp only
      rw [show (low + high + 1) / 2 - 1 + 1 = (low + high + 1) / 2 by omega]
      exact hf
