/-! TWO CHANGES OF SIGN: the row's first two numbers are small beside the others -/
def wchk (c : Nat) : List Nat → List Int → Bool
  | _, [] => true
  | [], _ :: _ => false
  | w :: ws, x :: v => decide (x.natAbs ≤ w * c) && wchk c ws v
def wsm : List Nat → List Int → Nat
  | w :: ws, x :: m => w * x.natAbs + wsm ws m
  | _, _ => 0
theorem dot_w {c : Nat} : ∀ (ws : List Nat) (v m : List Int), wchk c ws v = true → (dot v m).natAbs ≤ c * wsm ws m
  | _, [], m, _ => Nat.zero_le _
  | [], _ :: _, _, h => by simp [wchk] at h
  | w :: ws, x :: v, [], _ => Nat.zero_le _
  | w :: ws, x :: v, y :: m, h => by
    simp only [wchk, Bool.and_eq_true, decide_eq_true_eq] at h
    have ih := dot_w ws v m h.2
    show (x * y + dot v m).natAbs ≤ c * (w * y.natAbs + wsm ws m)
    have a : (x * y).natAbs ≤ c * (w * y.natAbs) := by
      rw [Int.natAbs_mul, ← Nat.mul_assoc, Nat.mul_comm c w]
      exact Nat.mul_le_mul_right _ h.1
    rw [Nat.mul_add]
    omega
def chkA : List Int → Bool
  | v :: vs => decide (0 < v) && wchk v.natAbs [1, 1, 1, 1, 1, 1, 1, 1] vs
  | [] => false
def chkB : List Int → Bool
  | z :: c :: vs => decide (z = 0) && decide (0 < c) && wchk c.natAbs [2, 3, 4, 5, 6, 7, 8] vs
  | _ => false
def vdf : List (List Int) → List (List Int)
  | x :: y :: r => vad x (vsm (-1) y) :: vdf (y :: r)
  | _ => []
/-- the row that is counted, as forms -/
def eT (d : Nat) : List (List Int) := vwgt (wch d) (vS (idr (d + 1)).reverse)
theorem eT_A : ∀ d, d ≤ 8 → ∀ v ∈ eT d, chkA v = true := by
  have h : ∀ d ∈ List.range 9, ∀ v ∈ eT d, chkA v = true := by decide +kernel
  intro d hd
  exact h d (List.mem_range.2 (by omega))
theorem eT_B : ∀ d, d ≤ 8 → ∀ v ∈ vdf (eT d), chkB v = true := by
  have h : ∀ d ∈ List.range 9, ∀ v ∈ vdf (eT d), chkB v = true := by decide +kernel
  intro d hd
  exact h d (List.mem_range.2 (by omega))
theorem pV_T {m : List Int} {d : Nat} (hm : m.length = d + 1) (hd : d ≤ 8) : pV m = vr 0 (mp (eT d) m) := by
  rw [pV_e hm hd]
  have id := mp_idr (d + 1) (by omega) m hm
  have e0 : wgt (wch d) (pT m) = mp (eT d) m := by
    unfold eT
    rw [← mp_wgt, ← mp_S, ← mp_rev, id]; rfl
  rw [e0]
/-- positive c, x beyond all that is added -/
theorem sg_lead {c x t : Int} {S : Nat} (hc : 0 < c) (ht : t.natAbs ≤ c.natAbs * S) (hS : S < x.natAbs) : (0 < x → 0 < c * x + t) ∧ (x < 0 → c * x + t < 0) := by
  have e : (c.natAbs : Int) = c := by omega
  have b : (t.natAbs : Int) ≤ c * (S : Int) := by
    have : ((t.natAbs : Nat) : Int) ≤ ((c.natAbs * S : Nat) : Int) := Int.ofNat_le.2 ht
    rw [Int.natCast_mul, e] at this
    exact this
  constructor
  · intro hx
    have m : c * ((S : Int) + 1) ≤ c * x := Int.mul_le_mul_of_nonneg_left (by omega) (Int.le_of_lt hc)
    rw [Int.mul_add, Int.mul_one] at m
    omega
  · intro hx
    have m : c * ((S : Int) + 1) ≤ c * (-x) := Int.mul_le_mul_of_nonneg_left (by omega) (Int.le_of_lt hc)
    rw [Int.mul_add, Int.mul_one, Int.mul_neg] at m
    omega
theorem vr_ngs : ∀ (r : List Int) (l : Int), l ≤ 0 → (∀ z ∈ r, z < 0) → vr l r = 0
  | [], _, _, _ => rfl
  | x :: r, l, hl, h => by
    have hx := h x (List.mem_cons_self ..)
    rw [vr_cons, if_neg (show ¬ x = 0 by omega), vr_ngs r x (by omega) (fun z hz => h z (List.mem_cons_of_mem _ hz))]
    have : ¬ l * x < 0 := fun q => by
      rcases mul_neg_iff.1 q with w | w <;> omega
    rw [if_neg this]
theorem vr_ng1 (r : List Int) (l : Int) (h : ∀ z ∈ r, z < 0) : vr l r ≤ 1 := by
  cases r with
  | nil => exact Nat.zero_le _
  | cons x r =>
    have hx := h x (List.mem_cons_self ..)
    rw [vr_cons, if_neg (show ¬ x = 0 by omega), vr_ngs r x (by omega) (fun z hz => h z (List.mem_cons_of_mem _ hz))]
    split <;> omega
def dec9 : List Int → Prop
  | x :: y :: r => y < x ∧ dec9 (y :: r)
  | _ => True
theorem dec9_lt : ∀ (r : List Int) (x : Int), dec9 (x :: r) → ∀ z ∈ r, z < x
  | [], _, _, z, hz => by simp at hz
  | y :: r, x, h, z, hz => by
    have h1 : y < x := h.1
    rcases List.mem_cons.1 hz with q | q
    · rw [q]; exact h1
    · have := dec9_lt r y h.2 z q
      omega
theorem dec9_t {x : Int} {r : List Int} (h : dec9 (x :: r)) : dec9 r := by
  cases r with
  | nil => exact True.intro
  | cons y r => exact h.2
theorem vr_dec : ∀ (r : List Int) (l : Int), 0 ≤ l → dec9 r → vr l r ≤ 1
  | [], _, _, _ => Nat.zero_le _
  | y :: r, l, hl, h => by
    rcases Int.lt_trichotomy y 0 with q | q | q
    · exact vr_ng1 (y :: r) l (fun z hz => by
        rcases List.mem_cons.1 hz with w | w
        · rw [w]; exact q
        · have := dec9_lt r y h z w
          omega)
    · subst q
      rw [vr_cons]
      simp only [Int.mul_zero, Int.lt_irrefl, if_false, if_true, Nat.zero_add]
      exact vr_ng1 r l (fun z hz => dec9_lt r 0 h z hz)
    · rw [vr_cons, if_neg (show ¬ y = 0 by omega), if_neg (show ¬ l * y < 0 from fun w => by rcases mul_neg_iff.1 w with w | w <;> omega), Nat.zero_add]
      exact vr_dec r y (Int.le_of_lt q) (dec9_t h)
theorem vr_n0 (r : List Int) : vr 0 (r.map (fun x => -x)) = vr 0 r := by
  have := vr_neg r 0
  rw [Int.neg_zero] at this
  exact this
theorem dot_c (a x : Int) (v m : List Int) : dot (a :: v) (x :: m) = a * x + dot v m := rfl
theorem pV_A {m : List Int} {d : Nat} {x : Int} (hm : (x :: m).length = d + 1) (hd : d ≤ 8) (h : 1 ≤ pV (x :: m)) : x.natAbs ≤ wsm [1, 1, 1, 1, 1, 1, 1, 1] m := by
  refine Nat.not_lt.1 fun lt => ?_
  rw [pV_T hm hd] at h
  have all : ∀ z ∈ mp (eT d) (x :: m), (0 < x → 0 < z) ∧ (x < 0 → z < 0) := fun z hz => by
    obtain ⟨v, hv, e⟩ := List.mem_map.1 hz
    have c := eT_A d hd v hv
    match v, c with
    | v0 :: vs, c =>
      simp only [chkA, Bool.and_eq_true, decide_eq_true_eq] at c
      rw [← e, dot_c]
      exact sg_lead c.1 (dot_w _ vs m c.2) lt
  have xn : x ≠ 0 := fun z => by rw [z] at lt; simp at lt
  rcases Int.lt_or_gt_of_ne xn with q | q
  · rw [vr_ngs _ 0 (Int.le_refl _) (fun z hz => (all z hz).2 q)] at h
    omega
  · rw [← vr_n0, vr_ngs _ 0 (Int.le_refl _) (fun z hz => by
      obtain ⟨y, hy, e⟩ := List.mem_map.1 hz
      have := (all y hy).1 q
      omega)] at h
    omega
theorem dec_mp (m : List Int) : ∀ A : List (List Int), (∀ v ∈ vdf A, 0 < dot v m) → dec9 (mp A m)
  | [], _ => True.intro
  | [_], _ => True.intro
  | u :: v :: r, h => by
    have a := h (vad u (vsm (-1) v)) (List.mem_cons_self ..)
    rw [dot_ad, dot_sm] at a
    exact ⟨by show dot v m < dot u m; omega, dec_mp m (v :: r) (fun w hw => h w (List.mem_cons_of_mem _ hw))⟩
theorem inc_mp (m : List Int) : ∀ A : List (List Int), (∀ v ∈ vdf A, dot v m < 0) → dec9 ((mp A m).map (fun x => -x))
  | [], _ => True.intro
  | [_], _ => True.intro
  | u :: v :: r, h => by
    have a := h (vad u (vsm (-1) v)) (List.mem_cons_self ..)
    rw [dot_ad, dot_sm] at a
    exact ⟨by show -(dot v m) < -(dot u m); omega, inc_mp m (v :: r) (fun w hw => h w (List.mem_cons_of_mem _ hw))⟩
theorem pV_B {m : List Int} {d : Nat} {x y : Int} (hm : (x :: y :: m).length = d + 1) (hd : d ≤ 8) (h : 2 ≤ pV (x :: y :: m)) : y.natAbs ≤ wsm [2, 3, 4, 5, 6, 7, 8] m := by
  refine Nat.not_lt.1 fun lt => ?_
  rw [pV_T hm hd] at h
  have all : ∀ v ∈ vdf (eT d), (0 < y → 0 < dot v (x :: y :: m)) ∧ (y < 0 → dot v (x :: y :: m) < 0) := fun v hv => by
    have c := eT_B d hd v hv
    match v, c with
    | v0 :: v1 :: vs, c =>
      simp only [chkB, Bool.and_eq_true, decide_eq_true_eq] at c
      rw [dot_c, dot_c, c.1.1, Int.zero_mul, Int.zero_add]
      exact sg_lead c.1.2 (dot_w _ vs m c.2) lt
  have yn : y ≠ 0 := fun z => by rw [z] at lt; simp at lt
  rcases Int.lt_or_gt_of_ne yn with q | q
  · have := vr_dec _ 0 (Int.le_refl _) (inc_mp (x :: y :: m) (eT d) (fun v hv => (all v hv).2 q))
    rw [vr_n0] at this
    omega
  · have := vr_dec _ 0 (Int.le_refl _) (dec_mp (x :: y :: m) (eT d) (fun v hv => (all v hv).1 q))
    omega
/-- what two changes tell, in fractions -/
theorem wsm_q {B : Rat} (B0 : 0 ≤ B) : ∀ (ws : List Nat) (m : List Int), (∀ x ∈ m, (x.natAbs : Rat) ≤ B) → (wsm ws m : Rat) ≤ (ws.sum : Rat) * B
  | [], m, _ => by
    have : wsm [] m = 0 := by cases m <;> rfl
    rw [this]
    show ((0 : Nat) : Rat) ≤ ((0 : Nat) : Rat) * B
    rw [show ((0 : Nat) : Rat) = 0 from rfl, Rat.zero_mul]
    exact Rat.le_refl
  | w :: ws, [], _ => by
    show ((0 : Nat) : Rat) ≤ _
    exact Rat.mul_nonneg (rat_nn _) B0
  | w :: ws, x :: m, h => by
    have ih := wsm_q B0 ws m (fun z hz => h z (List.mem_cons_of_mem _ hz))
    have a := Rat.mul_le_mul_of_nonneg_left (h x (List.mem_cons_self ..)) (rat_nn w)
    show ((w * x.natAbs + wsm ws m : Nat) : Rat) ≤ _
    rw [List.sum_cons, Rat.natCast_add, Rat.natCast_add, Rat.natCast_mul]
    grind
theorem pV_row {m : List Int} {d : Nat} {B : Rat} (hm : m.length = d + 1) (d2 : 2 ≤ d) (d8 : d ≤ 8) (h : 2 ≤ pV m) (B0 : 0 ≤ B) (hB : ∀ k, 3 ≤ k → ((pgt m k).natAbs : Rat) ≤ B) : ((pgt m 1).natAbs : Rat) ≤ 2 * ((pgt m 2).natAbs : Rat) + 33 * B ∧ ((pgt m 0).natAbs : Rat) ≤ ((pgt m 1).natAbs : Rat) + ((pgt m 2).natAbs : Rat) + 7 * B := by
  match m, hm with
  | [], hm => simp at hm
  | [_], hm => simp at hm; omega
  | [_, _], hm => simp at hm; omega
  | x :: y :: z :: m, hm =>
    have hm3 : ∀ t ∈ m, (t.natAbs : Rat) ≤ B := fun t ht => by
      obtain ⟨i, hi, e⟩ := List.mem_iff_getElem.1 ht
      have : ∀ (m : List Int) (i : Nat) (hi : i < m.length), pgt m i = m[i] := by
        intro m
        induction m with
        | nil => intro i hi; simp at hi
        | cons a m ih =>
          intro i hi
          cases i with
          | zero => rfl
          | succ i => exact ih i (by simp at hi; omega)
      have q := hB (i + 3) (by omega)
      rw [show pgt (x :: y :: z :: m) (i + 3) = pgt m i from rfl, this m i hi, e] at q
      exact q
    have a := pV_B hm d8 h
    have b := pV_A hm d8 (by omega)
    have wa := wsm_q B0 [3, 4, 5, 6, 7, 8] m hm3
    have wb := wsm_q B0 [1, 1, 1, 1, 1, 1] m hm3
    have a1 : y.natAbs ≤ 2 * z.natAbs + wsm [3, 4, 5, 6, 7, 8] m := a
    have b1 : x.natAbs ≤ 1 * y.natAbs + (1 * z.natAbs + wsm [1, 1, 1, 1, 1, 1] m) := b
    have a2 : ((y.natAbs : Nat) : Rat) ≤ ((2 * z.natAbs + wsm [3, 4, 5, 6, 7, 8] m : Nat) : Rat) := rat_le a1
    have b2 : ((x.natAbs : Nat) : Rat) ≤ ((1 * y.natAbs + (1 * z.natAbs + wsm [1, 1, 1, 1, 1, 1] m) : Nat) : Rat) := rat_le b1
    rw [Rat.natCast_add, Rat.natCast_mul] at a2
    rw [Rat.natCast_add, Rat.natCast_add, Rat.natCast_mul, Rat.natCast_mul] at b2
    rw [show (([3, 4, 5, 6, 7, 8] : List Nat).sum : Rat) = 33 from rfl] at wa
    rw [show (([1, 1, 1, 1, 1, 1] : List Nat).sum : Rat) = 6 from rfl] at wb
    rw [show ((2 : Nat) : Rat) = 2 from rfl] at a2
    rw [show ((1 : Nat) : Rat) = 1 from rfl] at b2
    show ((y.natAbs : Nat) : Rat) ≤ 2 * ((z.natAbs : Nat) : Rat) + 33 * B ∧ ((x.natAbs : Nat) : Rat) ≤ ((y.natAbs : Nat) : Rat) + ((z.natAbs : Nat) : Rat) + 7 * B
    constructor
    · grind
    · grind
