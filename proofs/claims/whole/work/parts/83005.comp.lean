/-! THE ROW OF AN INTERVAL: values and derivatives at its left end -/
theorem comp_d {m P : List Int} {K l w : Rat} (K0 : 0 ≤ K) (w0 : 0 < w) (h : ∀ y : Rat, pev m y = K * pev P (l + w * y)) (y : Rat) : pev (pdl m) y = K * w * pev (pdl P) (l + w * y) := by
  obtain ⟨D, hD⟩ : ∃ D, D = pev (pdl m) y - K * w * pev (pdl P) (l + w * y) := ⟨_, rfl⟩
  have z : D = 0 := by
    refine Classical.byContradiction fun n => ?_
    obtain ⟨s, s0, hs⟩ : ∃ s : Rat, 0 < s ∧ (D = s ∨ D = -s) := by
      rcases rsg_c D with ⟨q, _⟩ | ⟨q, _⟩ | ⟨q, _⟩
      · exact absurd q n
      · exact ⟨D, q, Or.inl rfl⟩
      · exact ⟨-D, by grind, Or.inr (by grind)⟩
    obtain ⟨ra, rb', X0⟩ := sq_rb y (y + 1)
    obtain ⟨X, hX⟩ : ∃ X, X = y * y + (y + 1) * (y + 1) + 1 := ⟨_, rfl⟩
    rw [← hX] at ra rb' X0
    obtain ⟨a, ha⟩ : ∃ a, a = l + w * y := ⟨_, rfl⟩
    rw [← ha] at hD
    obtain ⟨rc, rd, Y0⟩ := sq_rb a (a + w)
    obtain ⟨Y, hY⟩ : ∃ Y, Y = a * a + (a + w) * (a + w) + 1 := ⟨_, rfl⟩
    rw [← hY] at rc rd Y0
    have B1 := b2_nn X0 m
    have B2 := b2_nn Y0 P
    have kw : 0 ≤ K * w * w := Rat.mul_nonneg (Rat.mul_nonneg K0 (Rat.le_of_lt w0)) (Rat.le_of_lt w0)
    obtain ⟨T, hT⟩ : ∃ T, T = b2 m X + K * w * w * b2 P Y := ⟨_, rfl⟩
    have T0 : 0 ≤ T := by
      have := Rat.mul_nonneg kw B2
      rw [hT]
      grind
    have i0 : 0 < s⁻¹ := Rat.inv_pos.2 s0
    have i1 : s * s⁻¹ = 1 := Rat.mul_inv_cancel _ (by grind)
    obtain ⟨d, d0, hd⟩ := narrow (T := T * s⁻¹) (Rat.mul_nonneg T0 (Rat.le_of_lt i0))
    obtain ⟨e, e0, e1, e2⟩ : ∃ e : Rat, 0 < e ∧ e ≤ d ∧ e ≤ 1 := by
      by_cases q : d ≤ 1
      · exact ⟨d, d0, Rat.le_refl, q⟩
      · exact ⟨1, by decide, Rat.le_of_lt (Rat.not_le.1 q), Rat.le_refl⟩
    have we : w * e ≤ w * 1 := Rat.mul_le_mul_of_nonneg_left e2 (Rat.le_of_lt w0)
    have we0 : 0 < w * e := Rat.mul_pos w0 e0
    obtain ⟨q1, p1, t1⟩ := pev_t2 (x := y + e) (y := y) (X := X) ⟨by have := ra.1; grind, by have := rb'.2; grind⟩ ra m
    obtain ⟨q2, p2, t2⟩ := pev_t2 (x := a + w * e) (y := a) (X := Y) ⟨by have := rc.1; grind, by have := rd.2; grind⟩ rc P
    rw [h (y + e), h y, show l + w * (y + e) = a + w * e by rw [ha]; grind, ← ha, t2, show y + e - y = e by grind, show a + w * e - a = w * e by grind] at t1
    have r : rb (q1 - K * w * w * q2) T := by
      rw [hT, Rat.sub_eq_add_neg]
      exact rb_add p1 (rb_neg (rb_mul ⟨by grind, Rat.le_refl⟩ p2))
    have zz : e * (D + e * (q1 - K * w * w * q2)) = 0 := by
      rw [hD]
      generalize pev P a = P0 at t1
      generalize pev (pdl P) a = F at t1 ⊢
      generalize pev (pdl m) y = M at t1 ⊢
      grind
    have z2 : D = -(e * (q1 - K * w * w * q2)) := by
      rcases Rat.mul_eq_zero.1 zz with q | q
      · grind
      · grind
    have rD : rb D (e * T) := by
      rw [z2]
      exact rb_neg (rb_mul ⟨by grind, Rat.le_refl⟩ r)
    have hd' := hd e (Rat.le_of_lt e0) e1
    have mm := Rat.mul_lt_mul_of_pos_left hd' s0
    have : s * (T * s⁻¹ * e) = e * T * (s * s⁻¹) := by grind
    rw [this, i1] at mm
    obtain ⟨r1, r2⟩ := rD
    rcases hs with q | q <;> grind
  grind
def pdk : Nat → List Int → List Int
  | 0, P => P
  | k + 1, P => pdk k (pdl P)
theorem comp_dk {l w : Rat} (w0 : 0 < w) : ∀ (k : Nat) {m P : List Int} {K : Rat}, 0 ≤ K → (∀ y : Rat, pev m y = K * pev P (l + w * y)) → ∀ y : Rat, pev (pdk k m) y = K * w ^ k * pev (pdk k P) (l + w * y)
  | 0, m, P, K, _, h, y => by
    show pev m y = K * w ^ 0 * pev P (l + w * y)
    rw [h y, show w ^ 0 = 1 by grind, Rat.mul_one]
  | k + 1, m, P, K, K0, h, y => by
    have ih := comp_dk w0 k (m := pdl m) (P := pdl P) (K := K * w) (Rat.mul_nonneg K0 (Rat.le_of_lt w0)) (comp_d K0 w0 h) y
    show pev (pdk k (pdl m)) y = K * w ^ (k + 1) * pev (pdk k (pdl P)) (l + w * y)
    rw [ih, Rat.pow_succ]
    generalize w ^ k = W
    generalize pev (pdk k (pdl P)) (l + w * y) = V
    grind
theorem pdk_le : ∀ (k j : Nat) (m : List Int), (pgt m (j + k)).natAbs ≤ (pgt (pdk k m) j).natAbs
  | 0, j, m => Nat.le_refl _
  | k + 1, j, m => by
    refine Nat.le_trans ?_ (pdk_le k j (pdl m))
    rw [pdl_gt, Int.natAbs_mul]
    have : 1 ≤ (((j + k : Nat) : Int) + 1).natAbs := by omega
    exact Nat.le_mul_of_pos_right _ this
theorem pdk_pdb {n : Nat} : ∀ (k : Nat) {P : List Int}, pdb P (n + k) → pdb (pdk k P) n
  | 0, _, h => h
  | k + 1, P, h => pdk_pdb k (P := pdl P) (fun j hj => by rw [pdl_gt, h (j + 1) (by omega), Int.zero_mul])
theorem pdk_ab : ∀ (k : Nat) {P : List Int} {H : Nat}, pdb P 9 → pab P H → pab (pdk k P) (8 ^ k * H)
  | 0, P, H, _, h => by
    rw [Nat.pow_zero, Nat.one_mul]
    exact h
  | k + 1, P, H, h9, h => by
    have ih := pdk_ab k (P := pdl P) (H := 8 * H) (fun j hj => by rw [pdl_gt, h9 (j + 1) (by omega), Int.zero_mul]) (fun j => by
      rw [pdl_gt, Int.natAbs_mul]
      by_cases c : j + 1 ≤ 8
      · have e : ((j : Int) + 1).natAbs = j + 1 := by omega
        rw [e, Nat.mul_comm]
        exact Nat.mul_le_mul c (h (j + 1))
      · rw [h9 (j + 1) (by omega)]
        show 0 * _ ≤ _
        rw [Nat.zero_mul]
        exact Nat.zero_le _)
    rw [Nat.pow_succ, Nat.mul_assoc]
    exact ih
theorem pev_bd {n B : Nat} {Q : List Int} {l X : Rat} (X1 : 1 ≤ X) (hl : rb l X) (hQ : pdb Q (n + 1)) (hB : pab Q B) : rb (pev Q l) (((n + 1 : Nat) : Rat) * (B : Rat) * X ^ n) := by
  rw [← pdb_ev hQ]
  exact rb_mono (pev_rb hl _) (b0_num X1 n _ (by rw [pmk_len]; exact Nat.le_refl _) (fun k => by rw [pdb_tr hQ]; exact hB k))
theorem nab_rb {a : Int} {B : Rat} (h : rb (a : Rat) B) : (a.natAbs : Rat) ≤ B := by
  by_cases c : 0 ≤ a
  · have e : ((a.natAbs : Nat) : Int) = a := by omega
    have : (((a.natAbs : Nat) : Int) : Rat) ≤ B := by rw [e]; exact h.2
    exact this
  · have e : ((a.natAbs : Nat) : Int) = -a := by omega
    have : (((a.natAbs : Nat) : Int) : Rat) ≤ B := by
      rw [e, Rat.intCast_neg]
      have := h.1
      grind
    exact this
theorem rb_can {K t s : Rat} (K0 : 0 < K) (h : rb (K * t) (K * s)) : rb t s := by
  obtain ⟨a, b⟩ := h
  constructor
  · refine Rat.le_of_mul_le_mul_left ?_ K0
    grind
  · exact Rat.le_of_mul_le_mul_left b K0
theorem pow_le1 {w : Rat} (w0 : 0 ≤ w) (w1 : w ≤ 1) : ∀ j : Nat, 0 ≤ w ^ j ∧ w ^ j ≤ 1
  | 0 => by
    rw [show w ^ 0 = 1 by grind]
    constructor <;> decide
  | j + 1 => by
    obtain ⟨a, b⟩ := pow_le1 w0 w1 j
    rw [Rat.pow_succ]
    refine ⟨Rat.mul_nonneg a w0, ?_⟩
    have := Rat.mul_le_mul_of_nonneg_right b w0
    grind
/-- the numbers from the fourth on -/
theorem row_hi {m P : List Int} {d H : Nat} {K l w X : Rat} (hm : m.length = d + 1) (d8 : d ≤ 8) (hP : pdb P (d + 1)) (hH : pab P H) (K0 : 0 < K) (w0 : 0 < w) (w1 : w ≤ 1) (h : ∀ y : Rat, pev m y = K * pev P (l + w * y)) (X1 : 1 ≤ X) (hl : rb l X) (k : Nat) (hk : 3 ≤ k) : ((pgt m k).natAbs : Rat) ≤ K * (w * w * w * (134217728 * (H : Rat) * X ^ (d - 3))) := by
  have H0 := rat_nn H
  have X0 : 0 ≤ X := by grind
  by_cases c : k ≤ d
  · obtain ⟨j, hj⟩ : ∃ j, k = 3 + j := ⟨k - 3, by omega⟩
    obtain ⟨i, hi⟩ : ∃ i, d = k + i := ⟨d - k, by omega⟩
    have e := comp_dk w0 k (Rat.le_of_lt K0) h 0
    rw [show l + w * 0 = l by grind, pev_0] at e
    have bd := pev_bd (n := i) X1 hl (pdk_pdb (n := i + 1) k (P := P) (by rw [show i + 1 + k = d + 1 by omega]; exact hP)) (pdk_ab k (pdb_mono hP (by omega)) hH)
    have lim : ((i + 1 : Nat) : Rat) * ((8 ^ k * H : Nat) : Rat) ≤ 134217728 * (H : Rat) := by
      have q : (i + 1) * 8 ^ k ≤ 134217728 := by
        have t : ∀ k ∈ List.range 9, 3 ≤ k → (8 - k + 1) * 8 ^ k ≤ 134217728 := by decide +kernel
        have := t k (List.mem_range.2 (by omega)) hk
        exact Nat.le_trans (Nat.mul_le_mul_right _ (by omega)) this
      have q2 : (i + 1) * (8 ^ k * H) ≤ 134217728 * H := by
        rw [← Nat.mul_assoc]
        exact Nat.mul_le_mul_right _ q
      have q3 : (((i + 1) * (8 ^ k * H) : Nat) : Rat) ≤ ((134217728 * H : Nat) : Rat) := rat_le q2
      rw [Rat.natCast_mul, Rat.natCast_mul 134217728 H] at q3
      exact q3
    have Xi : (0 : Rat) ≤ X ^ i := Rat.pow_nonneg X0
    have bd2 := rb_mono bd (Rat.mul_le_mul_of_nonneg_right lim Xi)
    have wk := pow_le1 (Rat.le_of_lt w0) w1 j
    have Xj := rpow_ge1 X1 j
    have Kw : 0 ≤ K * w ^ k := Rat.mul_nonneg (Rat.le_of_lt K0) (Rat.pow_nonneg (Rat.le_of_lt w0))
    have r : rb ((pgt (pdk k m) 0 : Int) : Rat) (K * w ^ k * (134217728 * (H : Rat) * X ^ i)) := by
      rw [e]
      exact rb_mul ⟨by grind, Rat.le_refl⟩ bd2
    have n1 := nab_rb r
    have n2 : ((pgt m k).natAbs : Rat) ≤ ((pgt (pdk k m) 0).natAbs : Rat) := rat_le (by have := pdk_le k 0 m; rw [Nat.zero_add] at this; exact this)
    refine Rat.le_trans n2 (Rat.le_trans n1 ?_)
    have ew : w ^ k = w * w * w * w ^ j := by
      rw [hj, rp_ad]
      have : w ^ 3 = w * w * w := by grind
      rw [this]
    have eX : X ^ (d - 3) = X ^ j * X ^ i := by
      rw [← rp_ad]
      congr 1
      omega
    rw [ew, eX]
    have w3 : 0 ≤ w * w * w := Rat.mul_nonneg (Rat.mul_nonneg (Rat.le_of_lt w0) (Rat.le_of_lt w0)) (Rat.le_of_lt w0)
    have base : 0 ≤ K * (w * w * w) * (134217728 * (H : Rat) * X ^ i) := Rat.mul_nonneg (Rat.mul_nonneg (Rat.le_of_lt K0) w3) (Rat.mul_nonneg (Rat.mul_nonneg (by grind) H0) Xi)
    have f1 := Rat.mul_le_mul_of_nonneg_left wk.2 base
    have f2 := Rat.mul_le_mul_of_nonneg_left Xj base
    generalize w ^ j = Wj at f1 ⊢
    generalize X ^ j = Xjj at f2 ⊢
    generalize X ^ i = Xii at f1 f2 ⊢
    generalize w * w * w = W3 at f1 f2 ⊢
    generalize (H : Rat) = h9 at f1 f2 ⊢
    grind
  · rw [pgt_hi m k (by omega)]
    show ((0 : Nat) : Rat) ≤ _
    have w3 : 0 ≤ w * w * w := Rat.mul_nonneg (Rat.mul_nonneg (Rat.le_of_lt w0) (Rat.le_of_lt w0)) (Rat.le_of_lt w0)
    exact Rat.mul_nonneg (Rat.le_of_lt K0) (Rat.mul_nonneg w3 (Rat.mul_nonneg (Rat.mul_nonneg (by grind) H0) (Rat.pow_nonneg X0)))
theorem abs_ex (x : Rat) : ∃ A : Rat, 0 ≤ A ∧ (x = A ∨ x = -A) := by
  by_cases c : 0 ≤ x
  · exact ⟨x, c, Or.inl rfl⟩
  · exact ⟨-x, by grind, Or.inr (by grind)⟩
theorem row_near {m P : List Int} {d H : Nat} {K l w X : Rat} (hm : m.length = d + 1) (d2 : 2 ≤ d) (d8 : d ≤ 8) (hP : pdb P (d + 1)) (hH : pab P H) (K0 : 0 < K) (w0 : 0 < w) (w1 : w ≤ 1) (h : ∀ y : Rat, pev m y = K * pev P (l + w * y)) (X1 : 1 ≤ X) (hl : rb l X) (h2 : 2 ≤ pV m) : ∃ A c : Rat, 0 ≤ A ∧ c = 134217728 * (H : Rat) * X ^ (d - 3) ∧ (pev (pdl (pdl P)) l = A ∨ pev (pdl (pdl P)) l = -A) ∧ rb (pev (pdl P) l) (w * A + 33 * (w * w * c)) ∧ rb (pev P l) (3 / 2 * (w * w * A) + 40 * (w * w * w * c)) := by
  obtain ⟨A, A0, hA⟩ := abs_ex (pev (pdl (pdl P)) l)
  obtain ⟨c, hc⟩ : ∃ c, c = 134217728 * (H : Rat) * X ^ (d - 3) := ⟨_, rfl⟩
  have X0 : 0 ≤ X := by grind
  have c0 : 0 ≤ c := by rw [hc]; exact Rat.mul_nonneg (Rat.mul_nonneg (by grind) (rat_nn H)) (Rat.pow_nonneg X0)
  have w3 : 0 ≤ w * w * w := Rat.mul_nonneg (Rat.mul_nonneg (Rat.le_of_lt w0) (Rat.le_of_lt w0)) (Rat.le_of_lt w0)
  have hi : ∀ k, 3 ≤ k → ((pgt m k).natAbs : Rat) ≤ K * (w * w * w * c) := fun k hk => by
    rw [hc]
    exact row_hi hm d8 hP hH K0 w0 w1 h X1 hl k hk
  obtain ⟨r1, r0⟩ := pV_row hm d2 d8 h2 (Rat.mul_nonneg (Rat.le_of_lt K0) (Rat.mul_nonneg w3 c0)) hi
  have e0 : ((pgt m 0 : Int) : Rat) = K * pev P l := by
    have := h 0
    rw [show l + w * 0 = l by grind, pev_0] at this
    exact this
  have e1 : ((pgt m 1 : Int) : Rat) = K * w * pev (pdl P) l := by
    have := comp_d (Rat.le_of_lt K0) w0 h 0
    rw [show l + w * 0 = l by grind, pev_0, pdl_gt] at this
    rw [show ((0 : Nat) : Int) + 1 = 1 from rfl, Int.mul_one] at this
    exact this
  have e2 : 2 * ((pgt m 2 : Int) : Rat) = K * w * w * pev (pdl (pdl P)) l := by
    have := comp_d (Rat.mul_nonneg (Rat.le_of_lt K0) (Rat.le_of_lt w0)) w0 (comp_d (Rat.le_of_lt K0) w0 h) 0
    rw [show l + w * 0 = l by grind, pev_0, pdl_gt, pdl_gt] at this
    rw [show ((0 : Nat) : Int) + 1 = 1 from rfl, Int.mul_one, show ((0 + 1 : Nat) : Int) + 1 = 2 from rfl, Rat.intCast_mul] at this
    rw [← this]
    show (2 : Rat) * ((pgt m 2 : Int) : Rat) = ((pgt m 2 : Int) : Rat) * 2
    exact Rat.mul_comm _ _
  have kww : 0 ≤ K * w * w := Rat.mul_nonneg (Rat.mul_nonneg (Rat.le_of_lt K0) (Rat.le_of_lt w0)) (Rat.le_of_lt w0)
  have n2 : 2 * ((pgt m 2).natAbs : Rat) ≤ K * w * w * A := by
    have r : rb (((pgt m 2 : Int)) : Rat) (K * w * w * A / 2) := by
      have hA' : rb (pev (pdl (pdl P)) l) A := by rcases hA with q | q <;> rw [q] <;> constructor <;> grind
      have rr : rb (K * w * w * pev (pdl (pdl P)) l) (K * w * w * A) := rb_mul ⟨by grind, Rat.le_refl⟩ hA'
      rw [← e2] at rr
      obtain ⟨u, v⟩ := rr
      constructor <;> grind
    have := nab_rb r
    grind
  have n1 : ((pgt m 1).natAbs : Rat) ≤ K * w * (w * A + 33 * (w * w * c)) := by
    have e : K * w * (w * A + 33 * (w * w * c)) = K * w * w * A + 33 * (K * (w * w * w * c)) := by grind
    rw [e]
    grind
  refine ⟨A, c, A0, hc, hA, ?_, ?_⟩
  · have := rb_mono (rb_int (pgt m 1)) n1
    rw [e1] at this
    exact rb_can (Rat.mul_pos K0 w0) this
  · have b : ((pgt m 0).natAbs : Rat) ≤ K * (3 / 2 * (w * w * A) + 40 * (w * w * w * c)) := by
      have e : K * (3 / 2 * (w * w * A) + 40 * (w * w * w * c)) = K * w * (w * A + 33 * (w * w * c)) + 1 / 2 * (K * w * w * A) + 7 * (K * (w * w * w * c)) := by grind
      rw [e]
      grind
    have := rb_mono (rb_int (pgt m 0)) b
    rw [e0] at this
    exact rb_can K0 this
