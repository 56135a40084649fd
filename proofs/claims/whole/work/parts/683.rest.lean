/-! WHAT STAYS WHEN THE FRACTIONS ARE SPLIT OFF -/
theorem cauchy {L A X x : Rat} (hL : 0 < L) (hA : 0 ≤ A) (hX : A + L ≤ X * L) (hx : X ≤ x ∨ x ≤ -X) : ∀ P : List Int, 1 ≤ P.length → (pgt P (P.length - 1) : Rat) = L → (∀ k, k + 1 < P.length → rb (pgt P k : Rat) A) → L ≤ pev P x ∨ pev P x ≤ -L
  | [], h, _, _ => by simp at h
  | [a], _, h, _ => by
    left
    have e : pev [a] x = (a : Rat) := by
      show (a : Rat) + x * 0 = _
      grind
    have e2 : (a : Rat) = L := h
    rw [e, e2]; exact Rat.le_refl
  | a :: b :: p, _, h, hp => by
    have ih := cauchy hL hA hX hx (b :: p) (by simp) (by
      have e : pgt (a :: b :: p) ((a :: b :: p).length - 1) = pgt (b :: p) ((b :: p).length - 1) := rfl
      rw [e] at h
      exact h) (fun k hk => hp (k + 1) (by simp only [List.length_cons] at hk ⊢; omega))
    have ha : rb (a : Rat) A := hp 0 (by simp)
    have a1 := ha.1
    have a2 := ha.2
    have X1 : 0 < X := by
      refine Classical.byContradiction fun q => ?_
      have : 0 ≤ (-X) * L := Rat.mul_nonneg (by grind) (by grind)
      grind
    show L ≤ (a : Rat) + x * pev (b :: p) x ∨ (a : Rat) + x * pev (b :: p) x ≤ -L
    generalize pev (b :: p) x = y at ih ⊢
    rcases hx with q | q
    · rcases ih with w | w
      · left
        have := mul_rle q w (by grind) (by grind)
        grind
      · right
        have := mul_rle (c := x) (d := -y) q (show L ≤ -y by grind) (by grind) (by grind)
        grind
    · rcases ih with w | w
      · right
        have := mul_rle (c := -x) (d := y) (show X ≤ -x by grind) w (by grind) (by grind)
        grind
      · left
        have := mul_rle (c := -x) (d := -y) (show X ≤ -x by grind) (show L ≤ -y by grind) (by grind) (by grind)
        grind
/-- one sign on each interval without the numbers z -/
def pis (Pi : List Int) (z : Rat → Prop) : Prop := (∀ y, z y → pev Pi y = 0) ∧ ∀ a b : Rat, a < b → (∀ y, z y → ¬ (a < y ∧ y ≤ b)) → (∀ x y : Rat, a < x → x ≤ b → a < y → y ≤ b → 0 < pev Pi x * pev Pi y) ∧ (pev Pi a = 0 ∨ ∀ y : Rat, a < y → y ≤ b → 0 < pev Pi a * pev Pi y)
theorem pis_one : pis [1] (fun _ => False) := by
  refine ⟨fun y h => h.elim, fun a b _ _ => ⟨fun x y _ _ _ _ => ?_, Or.inr fun y _ _ => ?_⟩⟩
  · rw [pev_c1, pev_c1]; grind
  · rw [pev_c1, pev_c1]; grind
def lin (r : Rat) : List Int := [-r.num, (r.den : Int)]
theorem rat_nd (r : Rat) : r * ((r.den : Int) : Rat) = (r.num : Rat) ∧ (0 : Rat) < ((r.den : Int) : Rat) := by
  have d0 : (0 : Int) < (r.den : Int) := by have := r.den_pos; omega
  have dp : (0 : Rat) < ((r.den : Int) : Rat) := Rat.intCast_pos.2 d0
  have er : ((r.num : Int) : Rat) / ((r.den : Int) : Rat) = r := by
    rw [← Rat.divInt_eq_div]
    exact Rat.num_divInt_den r
  have h := Rat.div_mul_cancel (a := (r.num : Rat)) (b := ((r.den : Int) : Rat)) (by grind)
  rw [er] at h
  exact ⟨h, dp⟩
theorem lin_ev (r x : Rat) : pev (lin r) x = ((r.den : Int) : Rat) * (x - r) := by
  have h := (rat_nd r).1
  show ((-r.num : Int) : Rat) + x * (((r.den : Int) : Rat) + x * 0) = _
  rw [Rat.intCast_neg, ← h]
  grind
theorem lin_gd (r : Rat) : gd (lin r) := by
  have d0 : (0 : Int) < (r.den : Int) := by have := r.den_pos; omega
  refine ⟨by show 1 ≤ 2; omega, by show 2 ≤ 9; omega, fun n hn => ?_, d0, fun d hd => ?_⟩
  · have en : n = 1 := by
      have : (lin r).length = 2 := rfl
      omega
    subst en
    show (r.den : Int) ≠ 0
    omega
  · have h0 := hd 0
    have h1 := hd 1
    have h0' : d ∣ -r.num := h0
    have h1' : d ∣ (r.den : Int) := h1
    have g0 : d ∣ r.num := (Int.dvd_neg).1 h0'
    have n0 := Int.natAbs_dvd_natAbs.2 g0
    have n1 := Int.natAbs_dvd_natAbs.2 h1'
    have n2 := Nat.dvd_gcd n0 n1
    have red : Nat.gcd r.num.natAbs r.den = 1 := r.reduced
    have e : ((r.den : Int)).natAbs = r.den := Int.natAbs_natCast _
    rw [e, red] at n2
    exact Int.natAbs_dvd_natAbs.1 n2
theorem pis_mul {Pi : List Int} {z : Rat → Prop} {r : Rat} (h : pis Pi z) : pis (pmul Pi (lin r)) (fun y => z y ∨ y = r) := by
  have dp := (rat_nd r).2
  have same : ∀ p q u v : Rat, 0 < p * q → 0 < u * v → 0 < (p * u) * (q * v) := fun p q u v h1 h2 => by
    have := Rat.mul_pos h1 h2
    grind
  refine ⟨fun y hy => ?_, fun a b hab hz => ?_⟩
  · rw [pmul_ev, lin_ev]
    rcases hy with q | q
    · rw [h.1 y q]; grind
    · rw [q]; grind
  · obtain ⟨h1, h2⟩ := h.2 a b hab (fun y hy => hz y (Or.inl hy))
    have hr := hz r (Or.inr rfl)
    have sgn : ∀ x y : Rat, a < x → x ≤ b → a < y → y ≤ b → 0 < pev (lin r) x * pev (lin r) y := fun x y x1 x2 y1 y2 => by
      rw [lin_ev, lin_ev]
      by_cases c : a < r
      · have rb' : b < r := by
          refine Classical.byContradiction fun q => hr ⟨c, by grind⟩
        have : 0 < (((r.den : Int) : Rat) * (r - x)) * (((r.den : Int) : Rat) * (r - y)) := Rat.mul_pos (Rat.mul_pos dp (by grind)) (Rat.mul_pos dp (by grind))
        grind
      · exact Rat.mul_pos (Rat.mul_pos dp (by grind)) (Rat.mul_pos dp (by grind))
    refine ⟨fun x y x1 x2 y1 y2 => ?_, ?_⟩
    · rw [pmul_ev, pmul_ev]
      exact same _ _ _ _ (h1 x y x1 x2 y1 y2) (sgn x y x1 x2 y1 y2)
    · rcases h2 with q | q
      · left
        rw [pmul_ev, q]; grind
      · by_cases c : a = r
        · left
          rw [pmul_ev, lin_ev, c]; grind
        · right
          intro y y1 y2
          rw [pmul_ev, pmul_ev]
          refine same _ _ _ _ (q y y1 y2) ?_
          rw [lin_ev, lin_ev]
          by_cases c2 : a < r
          · have rb' : b < r := by
              refine Classical.byContradiction fun q => hr ⟨c2, by grind⟩
            have : 0 < (((r.den : Int) : Rat) * (r - a)) * (((r.den : Int) : Rat) * (r - y)) := Rat.mul_pos (Rat.mul_pos dp (by grind)) (Rat.mul_pos dp (by grind))
            grind
          · exact Rat.mul_pos (Rat.mul_pos dp (by grind)) (Rat.mul_pos dp (by grind))
/-- a root's linear factor divides -/
theorem lin_qd {F : List Int} {r : Rat} (lF : lnz F) (F2 : 2 ≤ F.length) (hr : pev F r = 0) : qd (lin r) F := by
  have dp := (rat_nd r).2
  have ll : (lin r).length = 2 := rfl
  obtain ⟨R, r1, r2⟩ := shq_id (F := F) (G := lin r) (by omega) (by omega)
  have d0 : (0 : Int) < (r.den : Int) := by have := r.den_pos; omega
  have z : ∀ x : Rat, pev R x = 0 := by
    have w := r2 r
    rw [hr, lin_ev] at w
    have Rr : pev R r = 0 := by grind
    intro x
    by_cases e : R.length = 0
    · rw [List.eq_nil_of_length_eq_zero e]; rfl
    · have l1 : R.length = 1 := by omega
      rw [len1_ev l1] at Rr ⊢
      exact Rr
  refine ⟨(r.den : Int) ^ (F.length + 1 - (lin r).length), shq F (lin r), Int.pow_ne_zero (by omega), fun x => ?_⟩
  have w := r2 x
  have e : pgt (lin r) ((lin r).length - 1) = (r.den : Int) := rfl
  rw [e, z x] at w
  rw [Rat.intCast_pow, w]; grind
theorem sqf_once {P F Pi : List Int} {x : Rat} (hq : sqf P) (e : ∀ x : Rat, pev P x = pev F x * pev Pi x) (h1 : pev F x = 0) (h2 : pev Pi x = 0) : False := by
  obtain ⟨c, u, v, c0, f⟩ := hq
  have d : pev (pdl P) x = pev (pdl F) x * pev Pi x + pev F x * pev (pdl Pi) x := by
    rw [← pdl_mul]
    exact pdl_co (pev_inj (fun x => by rw [pmul_ev]; exact e x)) x
  have w := f x
  rw [d, e x, h1, h2] at w
  have : (c : Rat) = 0 := by grind
  exact c0 (Rat.intCast_eq_zero_iff.1 this)
/-- in an interval with one fall there is at most one root -/
theorem one_root {c : Nat → List Int} {N : Nat} (hst : stu c (N - 1)) {h e : Int} (hv : vfall c N h e = 1) {x y : Rat} (hx : pev (c 0) x = 0) (hy : pev (c 0) y = 0) (x1 : (h : Rat) * wd e < x) (x2 : x ≤ ((h : Rat) + 1) * wd e) (y1 : (h : Rat) * wd e < y) (y2 : y ≤ ((h : Rat) + 1) * wd e) : x = y := by
  unfold vfall at hv
  have key : ∀ p q : Rat, pev (c 0) p = 0 → pev (c 0) q = 0 → (h : Rat) * wd e < p → p < q → q ≤ ((h : Rat) + 1) * wd e → False := fun p q hp hq p1 pq q2 => by
    have w1 := sturm_root hst (a := (h : Rat) * wd e) (b := p) (r := p) p1 Rat.le_refl hp
    have w2 := sturm_root hst (a := p) (b := ((h : Rat) + 1) * wd e) (r := q) pq q2 hq
    omega
  refine Classical.byContradiction fun n => ?_
  by_cases c1 : x < y
  · exact key x y hx hy x1 c1 y2
  · exact key y x hy hx y1 (Rat.lt_of_le_of_ne (Rat.not_lt.1 c1) (fun q => n q.symm)) x2
/-- what stays turns its sign on the interval of a root that is no fraction -/
theorem rest_flip {c : Nat → List Int} {N : Nat} {s : im_S} {R0 k : Nat} {b : Int} {P F Pi : List Int} {Lmin Rend : Rat} {lf rf : Nat → Rat} {z : Rat → Prop} (hst : stu c (N - 1)) (hc0 : c 0 = P) (hq : sqf P) (hr : rtl c N s R0 b P Lmin Rend k lf rf) (hLm : pev P Lmin ≠ 0) (hE : ∀ x : Rat, pev P x = pev F x * pev Pi x) (hpi : pis Pi z) (hz1 : ∀ y, z y → pev P y = 0) (hz2 : ∀ (r : Nat) (y : Rat), r < k → wga s 609 ((R0 + r : Nat) : Int) = (y.den : Int) → wga s 608 ((R0 + r : Nat) : Int) = y.num → pev P y = 0 → z y) {r : Nat} (hrk : r < k) (h0 : wga s 609 ((R0 + r : Nat) : Int) = 0) : ∃ h e : Int, wga s 612 ((R0 + r : Nat) : Int) = e ∧ wga s 611 ((R0 + r : Nat) : Int) = 700000 - 200 * (((R0 + r : Nat) : Int) + 1) ∧ num s (700000 - 200 * (((R0 + r : Nat) : Int) + 1)) h ∧ 0 ≤ e ∧ e ≤ 650 ∧ hbd h e ∧ hbd (h + 1) e ∧ lf r ≤ (h : Rat) * wd e ∧ ((h : Rat) + 1) * wd e ≤ rf r ∧ (∀ x : Rat, (h : Rat) * wd e ≤ x → x ≤ ((h : Rat) + 1) * wd e → pev F x ≠ 0) ∧ pev F ((h : Rat) * wd e) * pev F (((h : Rat) + 1) * wd e) < 0 := by
  obtain ⟨g41, g52, gr, go, gc⟩ := hr
  obtain ⟨⟨q1, q2, h, e, q3, q4, q5, q6, q7, q8, q9, q10, q11, q12, q13⟩, gl, gh⟩ := gr r hrk
  have no : ∀ x : Rat, pev P x = 0 → ¬ ((h : Rat) * wd e < x ∧ x ≤ ((h : Rat) + 1) * wd e) := by
    rcases q13 with w | ⟨x, _, _, _, _, w⟩
    · exact w.2
    · have := x.den_pos
      omega
  have lr : (h : Rat) * wd e < ((h : Rat) + 1) * wd e := by
    have := wd_pos e
    grind
  have Fne : ∀ x : Rat, (h : Rat) * wd e ≤ x → x ≤ ((h : Rat) + 1) * wd e → pev F x ≠ 0 := fun x x1 x2 hx => by
    have hPx : pev P x = 0 := by rw [hE x, hx]; grind
    by_cases c1 : (h : Rat) * wd e < x
    · exact no x hPx ⟨c1, x2⟩
    · have ex : x = (h : Rat) * wd e := Rat.le_antisymm (Rat.not_lt.1 c1) x1
      have Lx : Lmin < x := by
        refine Rat.lt_of_le_of_ne ?_ (fun q => hLm (by rw [q]; exact hPx))
        rw [ex]; exact Rat.le_trans gl q10
      have xR : x ≤ Rend := Rat.le_trans x2 (Rat.le_trans q11 gh)
      obtain ⟨r', k1, k2, k3⟩ := gc x hPx Lx xR
      obtain ⟨⟨_, _, h', e', _, _, _, _, _, _, v9, _, _, v12, v13⟩, _, _⟩ := gr r' k1
      obtain ⟨u1, u2⟩ := v12 x hPx k2 k3
      rcases v13 with w | ⟨y, y0, y1, y2, y3, y4⟩
      · exact w.2 x hPx ⟨u1, u2⟩
      · have exy : x = y := one_root hst v9 (by rw [hc0]; exact hPx) (by rw [hc0]; exact y0) u1 u2 y1 y2
        have zz := hz2 r' y k1 y4 y3 y0
        exact sqf_once hq hE hx (by rw [exy]; exact hpi.1 y zz)
  obtain ⟨p1, p2⟩ := hpi.2 _ _ lr (fun y hy => no y (hz1 y hy))
  refine ⟨h, e, q3, q2, q4, q5, q6, q7, q8, q10, q11, Fne, ?_⟩
  exact sturm_flip hst (f := F) (Pi := Pi) (fun x => by rw [hc0]; exact hE x) lr Fne p1 p2 q9
