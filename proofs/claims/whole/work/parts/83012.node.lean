/-! A NODE OF THE PARTER: what it tells of the turns -/
def cov (F : List Int) (n : Nat) (Lf Rt : Nat → Rat) (cur : Rat) : Prop := ∀ c : Rat → Int, cut c → rtc F c → c cur ≠ -1 ∨ ∃ i, i < n ∧ Lf i < Rt i ∧ c (Lf i) = 1 ∧ c (Rt i) = -1
def iso1 (F : List Int) (l r : Rat) : Prop := ∃ t : Int, (t = 1 ∨ t = -1) ∧ rsg (pev F l) = t ∧ ∀ x y : Rat, l ≤ x → x < y → y < r → rsg (pev F y) ≠ -t → rsg (pev F x) = t
theorem sg_of {x : Rat} {t : Int} (ht : t = 1 ∨ t = -1) (h : 0 < (t : Rat) * x) : rsg x = t := by
  rcases ht with q | q
  · subst q
    rw [rat_i1, Rat.one_mul] at h
    exact rsg_pos h
  · subst q
    rw [show ((-1 : Int) : Rat) = -1 from rfl] at h
    exact rsg_neg (by grind)
theorem sg_ge {x : Rat} {t : Int} (ht : t = 1 ∨ t = -1) (h : rsg x ≠ -t) : 0 ≤ (t : Rat) * x := by
  rcases ht with q | q
  · subst q
    rw [rat_i1, Rat.one_mul]
    exact Rat.not_lt.1 fun z => h (rsg_neg z)
  · subst q
    rw [show ((-1 : Int) : Rat) = -1 from rfl]
    have : ¬ 0 < x := fun z => h (by rw [rsg_pos z]; rfl)
    grind
theorem sg_ex {x : Rat} (h : x ≠ 0) : ∃ t : Int, (t = 1 ∨ t = -1) ∧ rsg x = t ∧ 0 < (t : Rat) * x := by
  rcases rsg_c x with ⟨a, _⟩ | ⟨a, b⟩ | ⟨a, b⟩
  · exact absurd a h
  · exact ⟨1, Or.inl rfl, b, by rw [rat_i1, Rat.one_mul]; exact a⟩
  · exact ⟨-1, Or.inr rfl, b, by rw [show ((-1 : Int) : Rat) = -1 from rfl]; grind⟩
/-- the row's first number has the sign of the value at the left end -/
theorem row_sg {P row : List Int} {K l w : Rat} {t : Int} (K0 : 0 < K) (e : ∀ z : Rat, pev row z = K * pev P (l + w * z)) (h : 0 < (t : Rat) * pev P l) : 0 < t * pgt row 0 := by
  have a := e 0
  rw [show l + w * 0 = l by grind, pev_0] at a
  have b : 0 < ((t * pgt row 0 : Int) : Rat) := by
    rw [Rat.intCast_mul, a]
    have := Rat.mul_pos K0 h
    generalize pev P l = V at this ⊢
    grind
  exact Rat.intCast_pos.1 b
theorem node_zero {P row : List Int} {K l w : Rat} {t : Int} (ht : t = 1 ∨ t = -1) (K0 : 0 < K) (w0 : 0 < w) (e : ∀ z : Rat, pev row z = K * pev P (l + w * z)) (h : 0 < (t : Rat) * pev P l) (hv : pV row = 0) {x : Rat} (x0 : l ≤ x) (x1 : x < l + w) : rsg (pev P x) = t := by
  have wn : w ≠ 0 := by grind
  have ez : l + w * ((x - l) / w) = x := by
    have : (x - l) / w * w = x - l := Rat.div_mul_cancel wn
    grind
  have z0 : 0 ≤ (x - l) / w := by
    refine Rat.not_lt.1 fun q => ?_
    have := (Rat.div_lt_iff w0).1 q
    grind
  have z1 : (x - l) / w < 1 := (Rat.div_lt_iff w0).2 (by grind)
  have a := leaf_zero ht (row_sg K0 e h) hv z0 z1
  rw [e, ez] at a
  refine sg_of ht (Rat.not_le.1 fun q => ?_)
  have := Rat.mul_le_mul_of_nonneg_left q (Rat.le_of_lt K0)
  generalize pev P x = V at this a
  grind
theorem node_one {P row : List Int} {K l w : Rat} (K0 : 0 < K) (w0 : 0 < w) (e : ∀ z : Rat, pev row z = K * pev P (l + w * z)) (h : pev P l ≠ 0) (hv : pV row ≤ 1) : iso1 P l (l + w) := by
  obtain ⟨t, ht, hs, hp⟩ := sg_ex h
  refine ⟨t, ht, hs, fun x y h1 h2 h3 hy => ?_⟩
  have wn : w ≠ 0 := by grind
  have ez : ∀ x : Rat, l + w * ((x - l) / w) = x := fun x => by
    have : (x - l) / w * w = x - l := Rat.div_mul_cancel wn
    grind
  have z0 : 0 ≤ (x - l) / w := by
    refine Rat.not_lt.1 fun q => ?_
    have := (Rat.div_lt_iff w0).1 q
    grind
  have zy : (x - l) / w < (y - l) / w := by
    rw [Rat.div_lt_iff w0, Rat.div_mul_cancel wn]
    grind
  have z1 : (y - l) / w < 1 := (Rat.div_lt_iff w0).2 (by grind)
  have q : 0 ≤ (t : Rat) * pev row ((y - l) / w) := by
    rw [e, ez]
    have := Rat.mul_nonneg (Rat.le_of_lt K0) (sg_ge ht hy)
    generalize pev P y = V at this ⊢
    grind
  have a := leaf_one ht (row_sg K0 e hp) hv z0 zy z1 q
  rw [e, ez] at a
  refine sg_of ht (Rat.not_le.1 fun q => ?_)
  have := Rat.mul_le_mul_of_nonneg_left q (Rat.le_of_lt K0)
  generalize pev P x = V at this a
  grind
/-- no change: on to the next -/
theorem cov_zero {P row : List Int} {K l w : Rat} {n : Nat} {Lf Rt : Nat → Rat} (K0 : 0 < K) (w0 : 0 < w) (e : ∀ z : Rat, pev row z = K * pev P (l + w * z)) (h : pev P l ≠ 0) (hv : pV row = 0) (hc : cov P n Lf Rt l) : cov P n Lf Rt (l + w) := by
  intro c cc ct
  rcases hc c cc ct with q | q
  · left
    intro z
    obtain ⟨t, ht, hs, hp⟩ := sg_ex h
    exact rtc_no (l := l) (r := l + w) cc q (by rw [z]; decide) ht (fun x x1 x2 => node_zero ht K0 w0 e hp hv (Rat.le_of_lt x1) x2) (fun _ => hs) (fun z0 => by omega) ct
  · exact Or.inr q
/-- one change: the new interval holds what lies in it -/
theorem cov_one {P : List Int} {l r : Rat} {n : Nat} {Lf Rt Lf' Rt' : Nat → Rat} (hlr : l < r) (h : pev P l ≠ 0) (hc : cov P n Lf Rt l) (h1 : ∀ i, i < n → Lf' i = Lf i ∧ Rt' i = Rt i) (h2 : Lf' n = l) (h3 : Rt' n = r) : cov P (n + 1) Lf' Rt' r := by
  intro c cc ct
  rcases hc c cc ct with q | ⟨i, i1, i2, i3, i4⟩
  · by_cases z : c r = -1
    · right
      refine ⟨n, by omega, by rw [h2, h3]; exact hlr, ?_, by rw [h3]; exact z⟩
      rw [h2]
      rcases cc.1 l with w | w | w
      · exact absurd w q
      · exact absurd (rtc_q0 cc w ct) h
      · exact w
    · exact Or.inl z
  · obtain ⟨a, b⟩ := h1 i i1
    exact Or.inr ⟨i, by omega, by rw [a, b]; exact i2, by rw [a]; exact i3, by rw [b]; exact i4⟩
/-- a linear factor turns at its zero alone -/
theorem lin_turn {p q : Int} (hq : 0 < q) {z : Rat} (hz : (q : Rat) * z = p) {c : Rat → Int} (hc : cut c) (ht : rtc [-p, q] c) : c z = 0 := by
  have qp : (0 : Rat) < (q : Rat) := Rat.intCast_pos.2 hq
  have ev := lnf_ev p q
  obtain ⟨⟨u, hu⟩, v, hv⟩ := hc.2.2.1
  rcases hc.1 z with w | w | w
  · exfalso
    have uz := cut_lt hc hu w
    refine rtc_no (l := u) (r := z) (t := -1) hc (by rw [hu]; decide) (by rw [w]; decide) (Or.inr rfl) (fun x x1 x2 => rsg_neg ?_) (fun h0 => by omega) (fun h0 => by omega) ht
    rw [ev]
    have := Rat.mul_lt_mul_of_pos_left x2 qp
    grind
  · exact w
  · exfalso
    have zv := cut_lt hc w hv
    refine rtc_no (l := z) (r := v) (t := 1) hc (by rw [w]; decide) (by rw [hv]; decide) (Or.inl rfl) (fun x x1 x2 => rsg_pos ?_) (fun h0 => by omega) (fun h0 => by omega) ht
    rw [ev]
    have := Rat.mul_lt_mul_of_pos_left x1 qp
    grind
theorem nzp_lin {p q : Int} (hq : 0 < q) : nzp [-p, q] := ⟨1, by show q ≠ 0; omega⟩
/-- a zero at the corner is taken out -/
theorem cov_drop {P P' : List Int} {p q : Int} {l : Rat} {n : Nat} {Lf Rt Lf' Rt' : Nat → Rat} (hq : 0 < q) (hz : (q : Rat) * l = p) (e : ∀ x : Rat, pev P x = (q * x - p) * pev P' x) (nz : nzp P') (hc : cov P n Lf Rt l) (h1 : ∀ i, i < n → Lf' i = Lf i ∧ Rt' i = Rt i) : cov P' (n + 1) Lf' Rt' l := by
  intro c cc ct
  by_cases z : c l = -1
  · right
    have nl : ¬ rtc [-p, q] c := fun w => by
      have := lin_turn hq hz cc w
      omega
    have t2 : rtc P c := (rtc_mul cc (nzp_lin (p := p) hq) nz (fun x => by rw [e x, lnf_ev])).2 (Or.inr ⟨nl, ct⟩)
    rcases hc c cc t2 with w | ⟨i, i1, i2, i3, i4⟩
    · exact absurd z w
    · obtain ⟨a, b⟩ := h1 i i1
      exact ⟨i, by omega, by rw [a, b]; exact i2, by rw [a]; exact i3, by rw [b]; exact i4⟩
  · exact Or.inl z
theorem iso1_drop {P P' : List Int} {p q : Int} {l r : Rat} (hq : 0 < q) (hr : (q : Rat) * r ≤ p) (hlr : l < r) (e : ∀ x : Rat, pev P x = (q * x - p) * pev P' x) (h : iso1 P l r) : iso1 P' l r := by
  obtain ⟨t, ht, h1, h2⟩ := h
  have qp : (0 : Rat) < (q : Rat) := Rat.intCast_pos.2 hq
  have sg : ∀ x : Rat, x < r → rsg (pev P x) = - rsg (pev P' x) := fun x hx => by
    have : (q : Rat) * x - p < 0 := by
      have := Rat.mul_lt_mul_of_pos_left hx qp
      grind
    rw [e x, rsg_m, rsg_neg this]
    omega
  refine ⟨-t, by omega, by have := sg l hlr; omega, fun x y a b c d => ?_⟩
  have s1 := sg y c
  have s2 := sg x (by grind)
  have := h2 x y a b c (by omega)
  omega
/-- the end: an isolating interval -/
theorem iso_fin {P : List Int} {l r : Rat} (hlr : l < r) (h : iso1 P l r) (hn : pev P l * pev P r < 0) : ∃ t : Int, iso P l r t := by
  obtain ⟨t, ht, h1, h2⟩ := h
  have hr : rsg (pev P r) = -t := by
    have := rsg_neg hn
    rw [rsg_m, h1] at this
    rcases ht with q | q <;> subst q <;> omega
  refine ⟨t, hlr, ht, h1, hr, fun x y a b c d => ?_⟩
  rcases Rat.le_iff_lt_or_eq.1 c with q | q
  · exact h2 x y a b q d
  · rw [q] at d
    exact absurd hr d
theorem const_no {F : List Int} (h : ∀ k, pgt F (k + 1) = 0) {c : Rat → Int} (ht : rtc F c) : False := by
  obtain ⟨u, v, a1, a2, a3⟩ := rtc_neg ht
  have := a3 u v Rat.le_refl a1 Rat.le_refl a2
  rw [cst9_ev h, cst9_ev h] at this
  have sq : ∀ x : Rat, 0 ≤ x * x := fun x => by
    by_cases q : 0 ≤ x
    · exact Rat.mul_nonneg q q
    · have := Rat.mul_nonneg (show 0 ≤ -x by grind) (show 0 ≤ -x by grind)
      grind
  have := sq (pgt F 0 : Rat)
  grind
