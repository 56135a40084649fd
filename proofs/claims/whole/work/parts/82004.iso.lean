/-! ISOLATING INTERVALS -/
/-- F has the sign t at l, the other one at r, and turns once between them -/
def iso (F : List Int) (l r : Rat) (t : Int) : Prop := l < r ∧ (t = 1 ∨ t = -1) ∧ rsg (pev F l) = t ∧ rsg (pev F r) = -t ∧ ∀ x y, l ≤ x → x < y → y ≤ r → rsg (pev F y) ≠ -t → rsg (pev F x) = t
/-- the number in an isolating interval -/
def ict (F : List Int) (l r : Rat) (t : Int) : Rat → Int := fun x => if x ≤ l then 1 else if r ≤ x then -1 else t * rsg (pev F x)
theorem rsg_3 (x : Rat) : rsg x = -1 ∨ rsg x = 0 ∨ rsg x = 1 := by
  rcases rsg_c x with ⟨_, b⟩ | ⟨_, b⟩ | ⟨_, b⟩ <;> omega
theorem ict_in {F : List Int} {l r : Rat} {t : Int} (h : iso F l r t) {x : Rat} (h1 : l ≤ x) (h2 : x ≤ r) : ict F l r t x = t * rsg (pev F x) := by
  obtain ⟨lr, t1, fl, fr, _⟩ := h
  unfold ict
  by_cases q : x ≤ l
  · have : x = l := by grind
    rw [if_pos q, this, fl]
    rcases t1 with z | z <;> rw [z] <;> rfl
  · rw [if_neg q]
    by_cases w : r ≤ x
    · have : x = r := by grind
      rw [if_pos w, this, fr]
      rcases t1 with z | z <;> rw [z] <;> rfl
    · rw [if_neg w]
theorem tmul {t a : Int} (h : t = 1 ∨ t = -1) (ha : a = -1 ∨ a = 0 ∨ a = 1) : (t * a = 1 ↔ a = t) ∧ (t * a = -1 ↔ a = -t) ∧ (t * a = -1 ∨ t * a = 0 ∨ t * a = 1) := by
  rcases h with h | h <;> rcases ha with ha | ha | ha <;> subst h <;> subst ha <;> decide
theorem ict_cut {F : List Int} {l r : Rat} {t : Int} (h : iso F l r t) : cut (ict F l r t) := by
  have hin := fun x h1 h2 => ict_in h (x := x) h1 h2
  obtain ⟨lr, t1, fl, fr, hp⟩ := id h
  have el : ∀ x, x ≤ l → ict F l r t x = 1 := fun x q => if_pos q
  have er : ∀ x, r ≤ x → ict F l r t x = -1 := fun x q => by unfold ict; rw [if_neg (by grind), if_pos q]
  have mid : ∀ x, ict F l r t x = 1 → x < r := fun x q => Rat.not_le.1 fun z => by have := er x z; omega
  have mid2 : ∀ x, ict F l r t x = -1 → l < x := fun x q => Rat.not_le.1 fun z => by have := el x z; omega
  refine ⟨fun x => ?_, fun x y xy hy => ?_, ⟨⟨l, el l Rat.le_refl⟩, r, er r Rat.le_refl⟩, fun x hx => ?_, fun x hx => ?_⟩
  · by_cases q : x ≤ l
    · rw [el x q]; omega
    · by_cases w : r ≤ x
      · rw [er x w]; omega
      · rw [hin x (by grind) (by grind)]
        exact (tmul t1 (rsg_3 _)).2.2
  · by_cases q : x ≤ l
    · exact el x q
    · have yr : y < r := Rat.not_le.1 fun z => hy (er y z)
      rw [hin y (by grind) (by grind)] at hy
      rw [hin x (by grind) (by grind)]
      exact (tmul t1 (rsg_3 _)).1.2 (hp x y (by grind) xy (by grind) (fun z => hy ((tmul t1 (rsg_3 _)).2.1.2 z)))
  · have xr := mid x hx
    by_cases q : x < l
    · exact ⟨l, q, el l Rat.le_refl⟩
    · have q := Rat.not_lt.1 q
      rw [hin x q (by grind)] at hx
      have fx := (tmul t1 (rsg_3 _)).1.1 hx
      obtain ⟨d, d0, hd⟩ := contB (F := F) (a := x) (fun z => by rw [z] at fx; rw [show rsg 0 = 0 by decide] at fx; omega)
      obtain ⟨y, y1, y2, y3⟩ : ∃ y, x < y ∧ y ≤ r ∧ y - x ≤ d := by
        by_cases w : x + d ≤ r
        · exact ⟨x + d, by grind, w, by grind⟩
        · exact ⟨r, xr, Rat.le_refl, by grind⟩
      refine ⟨y, y1, ?_⟩
      rw [hin y (by grind) y2]
      exact (tmul t1 (rsg_3 _)).1.2 (by rw [hd y (by grind) y3]; exact fx)
  · have xl := mid2 x hx
    by_cases q : r < x
    · exact ⟨r, q, er r Rat.le_refl⟩
    · have q := Rat.not_lt.1 q
      rw [hin x (by grind) q] at hx
      have fx := (tmul t1 (rsg_3 _)).2.1.1 hx
      obtain ⟨d, d0, hd⟩ := contB (F := F) (a := x) (fun z => by rw [z] at fx; rw [show rsg 0 = 0 by decide] at fx; omega)
      obtain ⟨y, y1, y2, y3⟩ : ∃ y, y < x ∧ l ≤ y ∧ x - y ≤ d := by
        by_cases w : l ≤ x - d
        · exact ⟨x - d, by grind, w, by grind⟩
        · exact ⟨l, xl, Rat.le_refl, by grind⟩
      refine ⟨y, y1, ?_⟩
      rw [hin y y2 (by grind)]
      exact (tmul t1 (rsg_3 _)).2.1.2 (by rw [hd y (by grind) (by grind)]; exact fx)
theorem ict_rtc {F : List Int} {l r : Rat} {t : Int} (h : iso F l r t) : rtc F (ict F l r t) := by
  have hin := fun x h1 h2 => ict_in h (x := x) h1 h2
  obtain ⟨lr, t1, fl, fr, hp⟩ := id h
  refine ⟨t, t1, ⟨l, if_pos Rat.le_refl, fun u h1 h2 => ?_⟩, r, by unfold ict; rw [if_neg (by grind), if_pos Rat.le_refl], fun v h1 h2 => ?_⟩
  · have ur : u ≤ r := Rat.not_lt.1 fun z => by
      unfold ict at h2
      rw [if_neg (by grind), if_pos (by grind)] at h2
      omega
    rw [hin u h1 ur] at h2
    exact (tmul t1 (rsg_3 _)).1.1 h2
  · have ul : l ≤ v := Rat.not_lt.1 fun z => by
      unfold ict at h2
      rw [if_pos (by grind)] at h2
      omega
    rw [hin v ul h1] at h2
    exact (tmul t1 (rsg_3 _)).2.1.1 h2
/-- the only number within the interval at which F turns -/
theorem ict_u {F : List Int} {l r : Rat} {t : Int} (h : iso F l r t) {c : Rat → Int} (hc : cut c) (hl : c l ≠ -1) (hr : c r ≠ 1) (ht : rtc F c) (x : Rat) : c x = ict F l r t x := by
  obtain ⟨lr, t1, fl, fr, hp⟩ := id h
  have cl : c l = 1 := by
    rcases hc.1 l with q | q | q
    · exact absurd q hl
    · have := rtc_q0 hc q ht
      rw [this] at fl
      rw [show rsg 0 = 0 by decide] at fl
      omega
    · exact q
  have cr : c r = -1 := by
    rcases hc.1 r with q | q | q
    · exact q
    · have := rtc_q0 hc q ht
      rw [this] at fr
      rw [show rsg 0 = 0 by decide] at fr
      omega
    · exact absurd q hr
  obtain ⟨w, w1, ⟨u0, a1, a2⟩, v0, b1, b2⟩ := ht
  -- near c the signs are t on the left, -t on the right
  obtain ⟨u1, p1, p2, p3⟩ := cut_mx a1 cl
  obtain ⟨v1, q1, q2, q3⟩ := cut_mn b1 cr
  have uv1 := cut_lt hc p1 q1
  have su : rsg (pev F u1) = w := a2 u1 p2 p1
  have sv : rsg (pev F v1) = -w := b2 v1 q2 q1
  have wt : w = t := by
    rcases w1 with w1 | w1 <;> rcases t1 with t1 | t1 <;> first | omega | skip
    · have := hp u1 v1 p3 uv1 q3 (by rw [sv]; omega)
      omega
    · have := hp u1 v1 p3 uv1 q3 (by rw [sv]; omega)
      omega
  subst wt
  have lft : ∀ y, l ≤ y → c y = 1 → rsg (pev F y) = w := fun y y1 y2 => by
    obtain ⟨z, z1, z2, z3⟩ := cut_mx a1 y2
    obtain ⟨z', z1', z2'⟩ := hc.2.2.2.1 z z1
    have zr : z' ≤ r := Rat.le_of_lt (cut_lt hc z2' cr)
    exact hp y z' y1 (by grind) zr (by rw [a2 z' (by grind) z2']; omega)
  have rgt : ∀ y, y ≤ r → c y = -1 → rsg (pev F y) = -w := fun y y1 y2 => by
    refine Classical.byContradiction fun n => ?_
    obtain ⟨z, z1, z2, z3⟩ := cut_mn b1 y2
    obtain ⟨z', z1', z2'⟩ := hc.2.2.2.2 z z1
    have zl : l ≤ z' := Rat.le_of_lt (cut_lt hc cl z2')
    have := hp z' y zl (by grind) y1 n
    rw [b2 z' (by grind) z2'] at this
    omega
  unfold ict
  by_cases k : x ≤ l
  · rw [if_pos k]; exact cut_le1 hc cl k
  · rw [if_neg k]
    by_cases k2 : r ≤ x
    · rw [if_pos k2]; exact cut_ge1 hc cr k2
    · rw [if_neg k2]
      rcases hc.1 x with z | z | z
      · rw [z, rgt x (by grind) z]; rcases w1 with w1 | w1 <;> rw [w1] <;> rfl
      · have := rtc_q0 hc z ⟨w, w1, ⟨u0, a1, a2⟩, v0, b1, b2⟩
        rw [z, this, show rsg 0 = 0 by decide, Int.mul_zero]
      · rw [z, lft x (by grind) z]; rcases w1 with w1 | w1 <;> rw [w1] <;> rfl
/-- where F has one sign, it doesn't turn -/
theorem rtc_no {F : List Int} {l r : Rat} {t : Int} {c : Rat → Int} (hc : cut c) (hl : c l ≠ -1) (hr : c r ≠ 1) (t1 : t = 1 ∨ t = -1) (hs : ∀ x, l < x → x < r → rsg (pev F x) = t) (hq : c l = 0 → rsg (pev F l) = t) (hq2 : c r = 0 → rsg (pev F r) = t) : ¬ rtc F c := fun ht => by
  have cl : c l = 1 := by
    rcases hc.1 l with q | q | q
    · exact absurd q hl
    · have := rtc_q0 hc q ht
      have z := hq q
      rw [this, show rsg 0 = 0 by decide] at z
      omega
    · exact q
  have cr : c r = -1 := by
    rcases hc.1 r with q | q | q
    · exact q
    · have := rtc_q0 hc q ht
      have z := hq2 q
      rw [this, show rsg 0 = 0 by decide] at z
      omega
    · exact absurd q hr
  obtain ⟨u0, v0, a1, a2, a3⟩ := rtc_neg ht
  obtain ⟨l', l1, l2⟩ := hc.2.2.2.1 l cl
  obtain ⟨r', r1, r2⟩ := hc.2.2.2.2 r cr
  obtain ⟨u, p1, p2, p3⟩ := cut_mx a1 l2
  obtain ⟨v, q1, q2, q3⟩ := cut_mn a2 r2
  have uv := cut_lt hc p1 q1
  have := rsg_neg (a3 u v p2 p1 q2 q1)
  rw [rsg_m, hs u (by grind) (by grind), hs v (by grind) (by grind)] at this
  rcases t1 with t1 | t1 <;> subst t1 <;> omega
/-! order, and rows of numbers -/
theorem rlt_tri (x y : Rat) : x < y ∨ x = y ∨ y < x := by
  rcases rsg_c (x - y) with ⟨a, _⟩ | ⟨a, _⟩ | ⟨a, _⟩ <;> grind
def clt (c c' : Rat → Int) : Prop := ∃ x, c x < c' x
theorem clt_irr {c : Rat → Int} : ¬ clt c c := fun ⟨x, h⟩ => by omega
theorem clt_asy {c c' : Rat → Int} (h : cut c) (h' : cut c') (a : clt c c') (b : clt c' c) : False := by
  obtain ⟨x, hx⟩ := a
  obtain ⟨y, hy⟩ := b
  rcases h.1 x with p | p | p <;> rcases h'.1 x with p' | p' | p' <;> rcases h.1 y with q | q | q <;> rcases h'.1 y with q' | q' | q' <;> first | omega | skip
  all_goals
    rcases rlt_tri x y with w | w | w
    · first
      | (have z := h.2.1 x y w (by omega); omega)
      | (have z := h'.2.1 x y w (by omega); omega)
    · first
      | (subst w; omega)
    · first
      | (have z := h.2.1 y x w (by omega); omega)
      | (have z := h'.2.1 y x w (by omega); omega)
theorem clt_tri {c c' : Rat → Int} (h : c ≠ c') : clt c c' ∨ clt c' c := by
  refine Classical.byContradiction fun n => h (funext fun x => ?_)
  have a : ¬ c x < c' x := fun z => n (Or.inl ⟨x, z⟩)
  have b : ¬ c' x < c x := fun z => n (Or.inr ⟨x, z⟩)
  omega
/-- two rising rows with the same members are the same -/
theorem rows_eq {α : Type} {lt : α → α → Prop} (asy : ∀ a b, lt a b → lt b a → False) (irr : ∀ a, ¬ lt a a) {a b : Nat → α} {n m : Nat} (ha : ∀ i j, i < j → j < n → lt (a i) (a j)) (hb : ∀ i j, i < j → j < m → lt (b i) (b j)) (h1 : ∀ i, i < n → ∃ j, j < m ∧ a i = b j) (h2 : ∀ j, j < m → ∃ i, i < n ∧ b j = a i) : n = m ∧ ∀ i, i < n → a i = b i := by
  have up : ∀ {a b : Nat → α} {n m : Nat}, (∀ i j, i < j → j < n → lt (a i) (a j)) → (∀ i j, i < j → j < m → lt (b i) (b j)) → (∀ i, i < n → ∃ j, j < m ∧ a i = b j) → ∀ i, i < n → ∃ j, j < m ∧ i ≤ j ∧ a i = b j := fun {a b n m} ha hb h1 i => by
    induction i with
    | zero => intro hi; obtain ⟨j, j1, j2⟩ := h1 0 hi; exact ⟨j, j1, by omega, j2⟩
    | succ i ih =>
      intro hi
      obtain ⟨j, j1, j2, j3⟩ := ih (by omega)
      obtain ⟨k, k1, k2⟩ := h1 (i + 1) hi
      refine ⟨k, k1, ?_, k2⟩
      have l := ha i (i + 1) (by omega) hi
      rw [j3, k2] at l
      rcases Nat.lt_trichotomy j k with q | q | q
      · omega
      · rw [q] at l; exact absurd l (irr _)
      · exact (asy _ _ l (hb k j q j1)).elim
  have u1 := up ha hb h1
  have u2 := up hb ha h2
  have nm : n = m := by
    have a1 : n ≤ m := by
      cases n with
      | zero => omega
      | succ n => obtain ⟨j, j1, j2, _⟩ := u1 n (by omega); omega
    have a2 : m ≤ n := by
      cases m with
      | zero => omega
      | succ m => obtain ⟨j, j1, j2, _⟩ := u2 m (by omega); omega
    omega
  refine ⟨nm, fun i hi => ?_⟩
  obtain ⟨j, j1, j2, j3⟩ := u1 i hi
  obtain ⟨k, k1, k2, k3⟩ := u2 j j1
  have ik : i = k := by
    rcases Nat.lt_trichotomy i k with q | q | q
    · have l := ha i k q k1
      rw [j3, ← k3] at l
      exact absurd l (irr _)
    · exact q
    · omega
  have : j = i := by omega
  rw [j3, this]
