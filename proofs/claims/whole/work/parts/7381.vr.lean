/-! CHANGES OF SIGN -/
/-- changes of sign in a row, the last sign before it being l's -/
def vr (l : Int) : List Int → Nat
  | [] => 0
  | x :: r => (if l * x < 0 then 1 else 0) + vr (if x = 0 then l else x) r
theorem mul_neg_iff {a b : Int} : a * b < 0 ↔ (a < 0 ∧ 0 < b) ∨ (0 < a ∧ b < 0) := by
  constructor
  · intro h
    rcases Int.lt_trichotomy a 0 with ha | ha | ha
    · rcases Int.lt_trichotomy b 0 with hb | hb | hb
      · have := Int.mul_pos_of_neg_of_neg ha hb; omega
      · subst hb; simp at h
      · exact Or.inl ⟨ha, hb⟩
    · subst ha; simp at h
    · rcases Int.lt_trichotomy b 0 with hb | hb | hb
      · exact Or.inr ⟨ha, hb⟩
      · subst hb; simp at h
      · have := Int.mul_pos ha hb; omega
  · rintro (⟨h1, h2⟩ | ⟨h1, h2⟩)
    · exact Int.mul_neg_of_neg_of_pos h1 h2
    · exact Int.mul_neg_of_pos_of_neg h1 h2
theorem vr_cons (l x : Int) (r : List Int) : vr l (x :: r) = (if l * x < 0 then 1 else 0) + vr (if x = 0 then l else x) r := rfl
/-- only the sign of the last one counts -/
theorem vr_same {r : List Int} : ∀ {l m : Int}, (0 < l ↔ 0 < m) → (l < 0 ↔ m < 0) → vr l r = vr m r := by
  induction r with
  | nil => intros; rfl
  | cons x r ih =>
    intro l m h1 h2
    rw [vr_cons, vr_cons]
    have e : (l * x < 0) ↔ (m * x < 0) := by rw [mul_neg_iff, mul_neg_iff, h1, h2]
    have e2 : vr (if x = 0 then l else x) r = vr (if x = 0 then m else x) r := by
      by_cases hx : x = 0
      · rw [if_pos hx, if_pos hx]; exact ih h1 h2
      · rw [if_neg hx, if_neg hx]
    rw [e2]
    by_cases c : l * x < 0
    · rw [if_pos c, if_pos (e.mp c)]
    · rw [if_neg c, if_neg (fun z => c (e.mpr z))]
theorem vr_zero_le {r : List Int} : ∀ {m : Int}, vr 0 r ≤ vr m r := by
  induction r with
  | nil => intro m; exact Nat.le_refl _
  | cons x r ih =>
    intro m
    rw [vr_cons, vr_cons]
    by_cases hx : x = 0
    · subst hx; simp only [Int.mul_zero, if_true]; have := @ih m; omega
    · rw [if_neg hx, if_neg hx, if_neg (by omega)]; omega
theorem vr_le_one {r : List Int} : ∀ {l m : Int}, vr l r ≤ 1 + vr m r := by
  induction r with
  | nil => intro l m; exact Nat.zero_le _
  | cons x r ih =>
    intro l m
    rw [vr_cons, vr_cons]
    by_cases hx : x = 0
    · subst hx; simp only [Int.mul_zero, if_true]; have := @ih l m; omega
    · rw [if_neg hx, if_neg hx]; split <;> split <;> omega
/-- one put in before the rest -/
theorem vr_del1 {l x : Int} {q : List Int} : vr l q ≤ vr l (x :: q) := by
  rw [vr_cons]
  by_cases hx : x = 0
  · rw [if_pos hx]; omega
  · rw [if_neg hx]
    by_cases c : l * x < 0
    · rw [if_pos c]; have := @vr_le_one q l x; omega
    · rw [if_neg c]
      rcases Int.lt_trichotomy l 0 with hl | hl | hl
      · have : x < 0 := by
          rcases Int.lt_trichotomy x 0 with h | h | h
          · exact h
          · exact absurd h hx
          · exact absurd (Int.mul_neg_of_neg_of_pos hl h) c
        rw [vr_same (l := l) (m := x) (by omega) (by omega)]; omega
      · subst hl; have := @vr_zero_le q x; omega
      · have : 0 < x := by
          rcases Int.lt_trichotomy x 0 with h | h | h
          · exact absurd (Int.mul_neg_of_pos_of_neg hl h) c
          · exact absurd h hx
          · exact h
        rw [vr_same (l := l) (m := x) (by omega) (by omega)]; omega
/-- what holds behind holds with the same before it -/
theorem vr_pre {q q' : List Int} (h : ∀ l, vr l q ≤ vr l q') : ∀ (p : List Int) (l : Int), vr l (p ++ q) ≤ vr l (p ++ q') := by
  intro p
  induction p with
  | nil => exact h
  | cons x p ih =>
    intro l
    rw [List.cons_append, List.cons_append, vr_cons, vr_cons]
    have := ih (if x = 0 then l else x)
    omega
/-- a weighed mean put in between two neighbours -/
theorem vr_ins {l x y z : Int} {q : List Int} (h1 : 0 < x → 0 < y → 0 ≤ z) (h2 : x < 0 → y < 0 → z ≤ 0) (h3 : x = 0 → (0 < y → 0 ≤ z) ∧ (y < 0 → z ≤ 0) ∧ (y = 0 → z = 0)) (h4 : y = 0 → (0 < x → 0 ≤ z) ∧ (x < 0 → z ≤ 0)) : vr l (x :: z :: y :: q) ≤ vr l (x :: y :: q) := by
  rw [vr_cons l x, vr_cons l x]
  have k : ∀ m : Int, (x ≠ 0 → m = x) → vr m (z :: y :: q) ≤ vr m (y :: q) := by
    intro m hm
    rw [vr_cons m z, vr_cons _ y, vr_cons m y]
    by_cases hz : z = 0
    · subst hz
      simp only [Int.mul_zero, if_true, Int.lt_irrefl, if_false]
      omega
    · rw [if_neg hz]
      by_cases hx : x = 0
      · obtain ⟨a1, a2, a3⟩ := h3 hx
        rcases Int.lt_trichotomy y 0 with hy | hy | hy
        · have hz2 : z < 0 := by have := a2 hy; omega
          have e1 : ¬ (z * y < 0) := fun c => by have := Int.mul_pos_of_neg_of_neg hz2 hy; omega
          rw [if_neg e1, if_neg (show ¬ y = 0 by omega), if_neg (show ¬ y = 0 by omega)]
          have e : (m * z < 0) ↔ (m * y < 0) := by rw [mul_neg_iff, mul_neg_iff]; omega
          by_cases c : m * z < 0
          · rw [if_pos c, if_pos (e.mp c)]; omega
          · rw [if_neg c, if_neg (fun z => c (e.mpr z))]; omega
        · exact absurd (a3 hy) hz
        · have hz2 : 0 < z := by have := a1 hy; omega
          have e1 : ¬ (z * y < 0) := fun c => by have := Int.mul_pos hz2 hy; omega
          rw [if_neg e1, if_neg (show ¬ y = 0 by omega), if_neg (show ¬ y = 0 by omega)]
          have e : (m * z < 0) ↔ (m * y < 0) := by rw [mul_neg_iff, mul_neg_iff]; omega
          by_cases c : m * z < 0
          · rw [if_pos c, if_pos (e.mp c)]; omega
          · rw [if_neg c, if_neg (fun z => c (e.mpr z))]; omega
      · have hm := hm hx
        subst hm
        by_cases hy : y = 0
        · subst hy
          obtain ⟨a1, a2⟩ := h4 rfl
          simp only [Int.mul_zero, if_true]
          have e1 : ¬ (m * z < 0) := by rw [mul_neg_iff]; omega
          rw [if_neg e1, vr_same (l := z) (m := m) (by omega) (by omega)]
          omega
        · rw [if_neg hy, if_neg hy]
          have e : (if m * z < 0 then 1 else 0) + (if z * y < 0 then 1 else 0) ≤ (if m * y < 0 then 1 else 0) := by
            rcases Int.lt_trichotomy m 0 with h | h | h
            · rcases Int.lt_trichotomy y 0 with h' | h' | h'
              · have := h2 h h'
                rw [if_neg (by rw [mul_neg_iff]; omega), if_neg (by rw [mul_neg_iff]; omega)]; omega
              · omega
              · rw [if_pos (show m * y < 0 by rw [mul_neg_iff]; omega)]
                by_cases c : 0 < z
                · rw [if_pos (show m * z < 0 by rw [mul_neg_iff]; omega), if_neg (by rw [mul_neg_iff]; omega)]; omega
                · rw [if_neg (by rw [mul_neg_iff]; omega), if_pos (show z * y < 0 by rw [mul_neg_iff]; omega)]; omega
            · omega
            · rcases Int.lt_trichotomy y 0 with h' | h' | h'
              · rw [if_pos (show m * y < 0 by rw [mul_neg_iff]; omega)]
                by_cases c : 0 < z
                · rw [if_neg (by rw [mul_neg_iff]; omega), if_pos (show z * y < 0 by rw [mul_neg_iff]; omega)]; omega
                · rw [if_pos (show m * z < 0 by rw [mul_neg_iff]; omega), if_neg (by rw [mul_neg_iff]; omega)]; omega
              · omega
              · have := h1 h h'
                rw [if_neg (by rw [mul_neg_iff]; omega), if_neg (by rw [mul_neg_iff]; omega)]; omega
          omega
  have := k (if x = 0 then l else x) (fun hx => if_neg hx)
  omega
/-- sums of neighbours -/
def adj : List Int → List Int
  | x :: y :: r => (x + y) :: adj (y :: r)
  | _ => []
def lst1 : List Int → Int
  | [] => 0
  | [x] => x
  | _ :: y :: r => lst1 (y :: r)
theorem adj_len : ∀ (r : List Int) (x : Int), (adj (x :: r)).length = r.length := by
  intro r
  induction r with
  | nil => intro x; rfl
  | cons y r ih => intro x; show (adj (y :: r)).length + 1 = _; rw [ih y]; rfl
theorem vr_dup {l x : Int} {q : List Int} : vr l (x :: x :: q) ≤ vr l (x :: q) := by
  rw [vr_cons l x, vr_cons l x, vr_cons _ x]
  by_cases hx : x = 0
  · subst hx; simp
  · simp only [hx, if_false]
    have e : ¬ (x * x < 0) := by rw [mul_neg_iff]; omega
    rw [if_neg e]; omega
theorem vr_adj : ∀ (r : List Int) (x l : Int) (post : List Int), vr l (x :: (adj (x :: r) ++ lst1 (x :: r) :: post)) ≤ vr l ((x :: r) ++ post) := by
  intro r
  induction r with
  | nil => intro x l post; exact vr_dup
  | cons y r ih =>
    intro x l post
    show vr l (x :: (x + y) :: (adj (y :: r) ++ lst1 (y :: r) :: post)) ≤ vr l (x :: y :: (r ++ post))
    have h1 : vr l ([x, x + y] ++ (adj (y :: r) ++ lst1 (y :: r) :: post)) ≤ vr l ([x, x + y] ++ (y :: (adj (y :: r) ++ lst1 (y :: r) :: post))) := vr_pre (fun _ => vr_del1) _ _
    have h2 : vr l (x :: (x + y) :: y :: (adj (y :: r) ++ lst1 (y :: r) :: post)) ≤ vr l (x :: y :: (adj (y :: r) ++ lst1 (y :: r) :: post)) := vr_ins (by omega) (by omega) (by omega) (by omega)
    have h3 : vr l ([x] ++ (y :: (adj (y :: r) ++ lst1 (y :: r) :: post))) ≤ vr l ([x] ++ (y :: (r ++ post))) := vr_pre (fun m => ih y m post) _ _
    exact Nat.le_trans h1 (Nat.le_trans h2 h3)
def hds : Nat → List Int → List Int
  | 0, _ => []
  | n + 1, b => b.headD 0 :: hds n (adj b)
def lsts : Nat → List Int → List Int
  | 0, _ => []
  | n + 1, b => lsts n (adj b) ++ [lst1 b]
theorem vr_casteljau : ∀ (n : Nat) (b : List Int) (l : Int) (post : List Int), b.length = n + 1 → vr l (hds (n + 1) b ++ (lsts (n + 1) b ++ post)) ≤ vr l (b ++ post) := by
  intro n
  induction n with
  | zero =>
    intro b l post hb
    match b, hb with
    | [x], _ => exact vr_dup
  | succ n ih =>
    intro b l post hb
    match b, hb with
    | x :: y :: r, hb =>
      have hl : (adj (x :: y :: r)).length = n + 1 := by rw [adj_len]; simpa using hb
      show vr l ([x] ++ (hds (n + 1) (adj (x :: y :: r)) ++ (lsts (n + 1) (adj (x :: y :: r)) ++ [lst1 (x :: y :: r)] ++ post))) ≤ _
      rw [List.append_assoc]
      have h1 := vr_pre (fun m => ih (adj (x :: y :: r)) m ([lst1 (x :: y :: r)] ++ post) hl) [x] l
      exact Nat.le_trans h1 (vr_adj (y :: r) x l post)
theorem vr_split : ∀ (p : List Int) (l : Int) (q : List Int), vr l p + vr 0 q ≤ vr l (p ++ q) := by
  intro p
  induction p with
  | nil => intro l q; show 0 + vr 0 q ≤ vr l q; have := @vr_zero_le q l; omega
  | cons x p ih =>
    intro l q
    rw [List.cons_append, vr_cons, vr_cons]
    have := ih (if x = 0 then l else x) q
    omega
/-- the changes of the two halves are at most those of the whole -/
theorem vr_halves {n : Nat} {b : List Int} (hb : b.length = n + 1) : vr 0 (hds (n + 1) b) + vr 0 (lsts (n + 1) b) ≤ vr 0 b := by
  have h := vr_casteljau n b 0 [] hb
  rw [List.append_nil, List.append_nil] at h
  exact Nat.le_trans (vr_split _ _ _) h
theorem vr_len : ∀ (b : List Int) (l : Int), vr l b ≤ b.length := by
  intro b
  induction b with
  | nil => intro l; exact Nat.le_refl _
  | cons x r ih =>
    intro l
    rw [vr_cons, List.length_cons]
    have := ih (if x = 0 then l else x)
    split <;> omega
theorem vr_len0 : ∀ (b : List Int), vr 0 b ≤ b.length - 1 := by
  intro b
  cases b with
  | nil => exact Nat.le_refl _
  | cons x r =>
    rw [vr_cons, List.length_cons]
    have := vr_len r (if x = 0 then 0 else x)
    simp only [Int.zero_mul, Int.lt_irrefl, if_false]
    omega
/-- times a t + b with a, b not below 0 -/
def wadj (a b : Int) : List Int → List Int
  | x :: y :: r => (b * y + a * x) :: wadj a b (y :: r)
  | _ => []
theorem wsum {a b x y : Int} (ha : 0 ≤ a) (hb : 0 ≤ b) : (0 < x → 0 < y → 0 ≤ b * y + a * x) ∧ (x < 0 → y < 0 → b * y + a * x ≤ 0) ∧ (x = 0 → (0 < y → 0 ≤ b * y + a * x) ∧ (y < 0 → b * y + a * x ≤ 0) ∧ (y = 0 → b * y + a * x = 0)) ∧ (y = 0 → (0 < x → 0 ≤ b * y + a * x) ∧ (x < 0 → b * y + a * x ≤ 0)) := by
  have p : ∀ {c z : Int}, 0 ≤ c → 0 < z → 0 ≤ c * z := fun h1 h2 => Int.mul_nonneg h1 (by omega)
  have n : ∀ {c z : Int}, 0 ≤ c → z < 0 → c * z ≤ 0 := fun h1 h2 => Int.mul_nonpos_of_nonneg_of_nonpos h1 (by omega)
  refine ⟨fun h1 h2 => ?_, fun h1 h2 => ?_, fun h => ⟨fun h2 => ?_, fun h2 => ?_, fun h2 => ?_⟩, fun h => ⟨fun h2 => ?_, fun h2 => ?_⟩⟩
  · have := p hb h2; have := p ha h1; omega
  · have := n hb h2; have := n ha h1; omega
  · subst h; have := p hb h2; simp; omega
  · subst h; have := n hb h2; simp; omega
  · subst h; subst h2; simp
  · subst h; have := p ha h2; simp; omega
  · subst h; have := n ha h2; simp; omega
theorem vr_wadj {a b : Int} (ha : 0 ≤ a) (hb : 0 ≤ b) : ∀ (r : List Int) (x l : Int) (post : List Int), vr l (x :: (wadj a b (x :: r) ++ lst1 (x :: r) :: post)) ≤ vr l ((x :: r) ++ post) := by
  intro r
  induction r with
  | nil => intro x l post; exact vr_dup
  | cons y r ih =>
    intro x l post
    show vr l (x :: (b * y + a * x) :: (wadj a b (y :: r) ++ lst1 (y :: r) :: post)) ≤ vr l (x :: y :: (r ++ post))
    have h1 : vr l ([x, b * y + a * x] ++ (wadj a b (y :: r) ++ lst1 (y :: r) :: post)) ≤ vr l ([x, b * y + a * x] ++ (y :: (wadj a b (y :: r) ++ lst1 (y :: r) :: post))) := vr_pre (fun _ => vr_del1) _ _
    have w := @wsum a b x y ha hb
    have h2 : vr l (x :: (b * y + a * x) :: y :: (wadj a b (y :: r) ++ lst1 (y :: r) :: post)) ≤ vr l (x :: y :: (wadj a b (y :: r) ++ lst1 (y :: r) :: post)) := vr_ins w.1 w.2.1 w.2.2.1 w.2.2.2
    have h3 : vr l ([x] ++ (y :: (wadj a b (y :: r) ++ lst1 (y :: r) :: post))) ≤ vr l ([x] ++ (y :: (r ++ post))) := vr_pre (fun m => ih y m post) _ _
    exact Nat.le_trans h1 (Nat.le_trans h2 h3)
