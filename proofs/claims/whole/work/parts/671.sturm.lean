/-! STURM'S CHAIN ON A NARROW CELL -/
theorem chv_s1 (s : Nat → Int) (k : Nat) : (chv s (k + 1)).1 = (chv s k).1 + (if s k = 0 then 0 else if (chv s k).2 = 0 then 0 else if s k = (chv s k).2 then 0 else 1) ∧ (chv s (k + 1)).2 = (if s k = 0 then (chv s k).2 else s k) := ⟨rfl, rfl⟩
/-- what the first two say -/
def ct0 (s : Nat → Int) : Int := if s 0 = 0 then 0 else if s 0 = s 1 then 0 else 1
theorem ct0_v {s : Nat → Int} {x y : Int} (h0 : s 0 = x) (h1 : s 1 = y) : ct0 s = if x = 0 then 0 else if x = y then 0 else 1 := by
  subst h0 h1
  rfl
theorem chv_stab {s t : Nat → Int} {m : Nat} {d : Int} (hs : ∀ i, i ≤ m → s i = -1 ∨ s i = 0 ∨ s i = 1) (ht : ∀ i, i ≤ m → t i = -1 ∨ t i = 0 ∨ t i = 1) (hi : ∀ i, 1 ≤ i → i < m → (s i = t i ∧ s i ≠ 0) ∨ ((s (i - 1) = t (i - 1) ∧ s (i - 1) ≠ 0) ∧ (s (i + 1) = t (i + 1) ∧ s (i + 1) ≠ 0) ∧ s (i - 1) = -s (i + 1))) (h0 : (s 0 = t 0 ∧ s 0 ≠ 0 ∧ d = 0) ∨ (1 ≤ m ∧ (s 1 = t 1 ∧ s 1 ≠ 0) ∧ ¬ (s 0 = t 0 ∧ s 0 ≠ 0) ∧ d = ct0 s - ct0 t)) : ∀ n k : Nat, k ≤ n → k ≤ m → (s k = t k ∧ s k ≠ 0) → (chv s (k + 1)).1 = (chv t (k + 1)).1 + d ∧ (chv s (k + 1)).2 = s k ∧ (chv t (k + 1)).2 = s k := by
  intro n
  induction n with
  | zero =>
    intro k hk _ hst
    have ek : k = 0 := by omega
    subst ek
    have a := chv_s1 s 0
    have b := chv_s1 t 0
    have e1 : chv s 0 = (0, 0) := rfl
    have e2 : chv t 0 = (0, 0) := rfl
    rw [e1] at a
    rw [e2] at b
    have hd : d = 0 := by
      rcases h0 with q | q
      · exact q.2.2
      · exact absurd hst q.2.2.1
    refine ⟨?_, ?_, ?_⟩
    · rw [a.1, b.1, hd]
      simp
    · rw [a.2, if_neg hst.2]
    · rw [b.2, if_neg (by rw [← hst.1]; exact hst.2)]; exact hst.1.symm
  | succ n ih =>
    intro k hk hkm hst
    by_cases c : k ≤ n
    · exact ih k c hkm hst
    have ek : k = n + 1 := by omega
    subst ek
    have a := chv_s1 s (n + 1)
    have b := chv_s1 t (n + 1)
    have l1 : (chv s (n + 1 + 1)).2 = s (n + 1) := by rw [a.2, if_neg hst.2]
    have l2 : (chv t (n + 1 + 1)).2 = s (n + 1) := by rw [b.2, if_neg (by rw [← hst.1]; exact hst.2)]; exact hst.1.symm
    refine ⟨?_, l1, l2⟩
    by_cases cs : s n = t n ∧ s n ≠ 0
    · obtain ⟨p1, p2, p3⟩ := ih n (Nat.le_refl _) (by omega) cs
      rw [a.1, b.1, p1, p2, p3, ← hst.1]
      omega
    · cases n with
      | zero =>
        rcases h0 with q | q
        · exact absurd ⟨q.1, q.2.1⟩ cs
        · have a0 := chv_s1 s 0
          have b0' := chv_s1 t 0
          have e1 : chv s 0 = (0, 0) := rfl
          have e2 : chv t 0 = (0, 0) := rfl
          rw [e1] at a0
          rw [e2] at b0'
          have a01 : (chv s (0 + 1)).1 = 0 := by rw [a0.1]; simp
          have b01 : (chv t (0 + 1)).1 = 0 := by rw [b0'.1]; simp
          have a02 : (chv s (0 + 1)).2 = s 0 := by
            rw [a0.2]
            split
            · rename_i h; exact h.symm
            · rfl
          have b02 : (chv t (0 + 1)).2 = t 0 := by
            rw [b0'.2]
            split
            · rename_i h; exact h.symm
            · rfl
          rw [a.1, b.1, a01, b01, a02, b02, q.2.2.2]
          unfold ct0
          have h1 := hst.1
          have h2 := hst.2
          show 0 + (if s 1 = 0 then 0 else if s 0 = 0 then 0 else if s 1 = s 0 then 0 else 1) = 0 + (if t 1 = 0 then 0 else if t 0 = 0 then 0 else if t 1 = t 0 then 0 else 1) + ((if s 0 = 0 then 0 else if s 0 = s 1 then 0 else 1) - (if t 0 = 0 then 0 else if t 0 = t 1 then 0 else 1))
          have h1' : s 1 = t 1 := h1
          have h2' : s 1 ≠ 0 := h2
          rw [if_neg h2', if_neg (show ¬ t 1 = 0 by rw [← h1']; exact h2')]
          have e3 : (s 1 = s 0) = (s 0 = s 1) := propext ⟨Eq.symm, Eq.symm⟩
          have e4 : (t 1 = t 0) = (t 0 = t 1) := propext ⟨Eq.symm, Eq.symm⟩
          simp only [e3, e4]
          omega
      | succ n =>
        rcases hi (n + 1) (by omega) (by omega) with q | ⟨q1, q2, q3⟩
        · exact absurd q cs
        · have e : n + 1 - 1 = n := by omega
          rw [e] at q1 q3
          obtain ⟨p1, p2, p3⟩ := ih n (by omega) (by omega) q1
          have a1 := chv_s1 s (n + 1)
          have b1 := chv_s1 t (n + 1)
          have vs := hs (n + 1) (by omega)
          have vt := ht (n + 1) (by omega)
          have vk := hs (n + 1 + 1) (by omega)
          have h1 := hst.1
          have h2 := hst.2
          rw [a.1, b.1, a1.1, a1.2, b1.1, b1.2, p1, p2, p3, ← h1]
          have three : ∀ x : Int, (x = -1 ∨ x = 0 ∨ x = 1) → ((if x = 0 then 0 else if s n = 0 then 0 else if x = s n then 0 else 1) + (if s (n + 1 + 1) = 0 then 0 else if (if x = 0 then s n else x) = 0 then 0 else if s (n + 1 + 1) = (if x = 0 then s n else x) then 0 else 1) : Int) = 1 := by
            intro x hx
            rcases vk with v | v | v
            · rw [v] at q3 ⊢
              rcases hx with rfl | rfl | rfl <;> rw [q3] <;> decide
            · exact absurd v h2
            · rw [v] at q3 ⊢
              rcases hx with rfl | rfl | rfl <;> rw [q3] <;> decide
          have t1 := three (s (n + 1)) vs
          have t2 := three (t (n + 1)) vt
          omega
/-! the chain -/
def stu (c : Nat → List Int) (m : Nat) : Prop := (∃ ka : Int, ka ≠ 0 ∧ ∀ x : Rat, pev (c m) x = ka) ∧ (∀ i, i < m → cop (c i) (c (i + 1))) ∧ (∀ i, 1 ≤ i → i < m → ∃ (al be : Int) (q : List Int), 0 < al ∧ 0 < be ∧ ∀ x : Rat, al * pev (c (i - 1)) x = pev q x * pev (c i) x - be * pev (c (i + 1)) x) ∧ (1 ≤ m → ∃ ga : Int, 0 < ga ∧ ∀ x : Rat, pev (pdl (c 0)) x = ga * pev (c 1) x)
def vst (c : Nat → List Int) (m : Nat) (x : Rat) : Int := (chv (fun k => rsg (pev (c k) x)) (m + 1)).1
theorem small {x y E : Rat} (h : x * y ≤ 0) (hd : rb (x - y) E) : rb x E := by
  have a := hd.1
  have b := hd.2
  have e0 := rb_0 hd
  rcases rsg_c x with ⟨q, _⟩ | ⟨q, _⟩ | ⟨q, _⟩
  · constructor <;> grind
  · have hy : ¬ 0 < y := fun w => by have := Rat.mul_pos q w; grind
    constructor <;> grind
  · have hy : ¬ y < 0 := fun w => by
      have : 0 < (-x) * (-y) := Rat.mul_pos (by grind) (by grind)
      grind
    constructor <;> grind
theorem small2 {y w E : Rat} (h : y * y ≤ w * y) (hw : rb w E) : rb y E := by
  have a := hw.1
  have b := hw.2
  have e0 := rb_0 hw
  rcases rsg_c y with ⟨q, _⟩ | ⟨q, _⟩ | ⟨q, _⟩
  · constructor <;> grind
  · have : y ≤ w := by
      refine Classical.byContradiction fun c => ?_
      have : 0 < (y - w) * y := Rat.mul_pos (by grind) q
      grind
    constructor <;> grind
  · have : w ≤ y := by
      refine Classical.byContradiction fun c => ?_
      have : 0 < (w - y) * (-y) := Rat.mul_pos (by grind) (by grind)
      grind
    constructor <;> grind
theorem int_ge1 {c : Int} {B : Rat} (hc : c ≠ 0) (h : rb (c : Rat) B) : 1 ≤ B := by
  have a := h.1
  have b := h.2
  rcases (by omega : 1 ≤ c ∨ c ≤ -1) with q | q
  · have := Rat.intCast_le_intCast.2 q
    rw [rat_i1] at this
    grind
  · have := Rat.intCast_le_intCast.2 q
    have e : ((-1 : Int) : Rat) = -1 := rfl
    rw [e] at this
    grind
/-- how narrow: T times it is below 1 -/
theorem narrow {T : Rat} (hT : 0 ≤ T) : ∃ d : Rat, 0 < d ∧ ∀ e : Rat, 0 ≤ e → e ≤ d → T * e < 1 := by
  have p : (0 : Rat) < T + 1 := by grind
  have p2 : 0 < (T + 1)⁻¹ := Rat.inv_pos.2 p
  have p3 : (T + 1) * (T + 1)⁻¹ = 1 := Rat.mul_inv_cancel _ (by grind)
  refine ⟨(T + 1)⁻¹, p2, fun e e0 e1 => ?_⟩
  have q1 : 0 ≤ T * ((T + 1)⁻¹ - e) := Rat.mul_nonneg hT (by grind)
  grind
theorem narrows (P : Nat → Rat → Prop) (anti : ∀ i d e, P i d → 0 < e → e ≤ d → P i e) : ∀ m : Nat, (∀ i, i < m → ∃ d, 0 < d ∧ P i d) → ∃ d, 0 < d ∧ ∀ i, i < m → P i d
  | 0, _ => ⟨1, by grind, fun i hi => absurd hi (Nat.not_lt_zero i)⟩
  | m + 1, h => by
    obtain ⟨d1, p1, q1⟩ := narrows P anti m (fun i hi => h i (by omega))
    obtain ⟨d2, p2, q2⟩ := h m (by omega)
    by_cases c : d1 ≤ d2
    · refine ⟨d1, p1, fun i hi => ?_⟩
      by_cases e : i = m
      · rw [e]; exact anti m d2 d1 q2 p1 c
      · exact q1 i (by omega)
    · refine ⟨d2, p2, fun i hi => ?_⟩
      by_cases e : i = m
      · rw [e]; exact q2
      · exact anti i d1 d2 (q1 i (by omega)) p2 (by grind)
def cell (X d a b : Rat) : Prop := rb a X ∧ rb b X ∧ a < b ∧ b - a ≤ d
theorem uns {P : List Int} {X d a b : Rat} (h : cell X d a b) (hu : pev P a * pev P b ≤ 0) : rb (pev P a) (d * b1 P X) := by
  obtain ⟨ha, hb, hab, hd⟩ := h
  obtain ⟨e, h1, h2⟩ := pev_t1 ha hb P
  refine small hu ?_
  rw [h2]
  exact rb_mul ⟨by grind, by grind⟩ h1
theorem nar1 {A B : List Int} (X : Rat) (hX : 0 ≤ X) (h : cop A B) : ∃ d : Rat, 0 < d ∧ ∀ a b : Rat, cell X d a b → ¬ (pev A a * pev A b ≤ 0 ∧ pev B a * pev B b ≤ 0) := by
  obtain ⟨c, u, v, c0, e⟩ := h
  have t1 := Rat.mul_nonneg (b0_nn hX u) (b1_nn hX A)
  have t2 := Rat.mul_nonneg (b0_nn hX v) (b1_nn hX B)
  obtain ⟨d, d0, hd⟩ := narrow (T := b0 u X * b1 A X + b0 v X * b1 B X) (by grind)
  refine ⟨d, d0, fun a b hc hu => ?_⟩
  have w1 := uns hc hu.1
  have w2 := uns hc hu.2
  have w3 := rb_add (rb_mul (pev_rb hc.1 u) w1) (rb_mul (pev_rb hc.1 v) w2)
  rw [← e a] at w3
  have w4 := int_ge1 c0 w3
  have w5 := hd d (by grind) (by grind)
  grind
theorem nar2 {A B C q : List Int} {al be : Int} (X : Rat) (hX : 0 ≤ X) (h : cop A B) (ha : 0 < al) (hb : 0 < be) (hq : ∀ x : Rat, al * pev C x = pev q x * pev A x - be * pev B x) : ∃ d : Rat, 0 < d ∧ ∀ a b : Rat, cell X d a b → pev A a * pev A b ≤ 0 → pev C a * pev B a < 0 := by
  obtain ⟨c, u, v, c0, e⟩ := h
  have t1 := Rat.mul_nonneg (b0_nn hX u) (b1_nn hX A)
  have t2 := Rat.mul_nonneg (b0_nn hX v) (Rat.mul_nonneg (b0_nn hX q) (b1_nn hX A))
  obtain ⟨d, d0, hd⟩ := narrow (T := b0 u X * b1 A X + b0 v X * (b0 q X * b1 A X)) (by grind)
  have ra : (1 : Rat) ≤ al := by
    have := Rat.intCast_le_intCast.2 (show (1 : Int) ≤ al by omega)
    rw [rat_i1] at this
    exact this
  have rb1 : (1 : Rat) ≤ be := by
    have := Rat.intCast_le_intCast.2 (show (1 : Int) ≤ be by omega)
    rw [rat_i1] at this
    exact this
  refine ⟨d, d0, fun a b hc hu => ?_⟩
  have w1 := uns hc hu
  refine Classical.byContradiction fun hn => ?_
  have hz : 0 ≤ pev C a * pev B a := by grind
  have e1 := hq a
  have sq : pev B a * pev B a ≤ (pev q a * pev A a) * pev B a := by
    have s0 : 0 ≤ pev B a * pev B a := by
      rcases rsg_c (pev B a) with ⟨w, _⟩ | ⟨w, _⟩ | ⟨w, _⟩
      · rw [w]; grind
      · have := Rat.mul_pos w w; grind
      · have : 0 < (-pev B a) * (-pev B a) := Rat.mul_pos (by grind) (by grind)
        grind
    have s1 : 0 ≤ (be - 1) * (pev B a * pev B a) := Rat.mul_nonneg (by grind) s0
    have s2 : 0 ≤ al * (pev C a * pev B a) := Rat.mul_nonneg (by grind) hz
    have s3 : al * (pev C a * pev B a) = (pev q a * pev A a - be * pev B a) * pev B a := by rw [← e1]; grind
    grind
  have w2 := small2 sq (rb_mul (pev_rb hc.1 q) w1)
  have w3 := rb_add (rb_mul (pev_rb hc.1 u) w1) (rb_mul (pev_rb hc.1 v) w2)
  rw [← e a] at w3
  have w4 := int_ge1 c0 w3
  have w5 := hd d (by grind) (by grind)
  grind
theorem nar3 {A B : List Int} {ga : Int} (X : Rat) (hX : 0 ≤ X) (h : cop A B) (hg : 0 < ga) (hd : ∀ x : Rat, pev (pdl A) x = ga * pev B x) : ∃ d : Rat, 0 < d ∧ ∀ a b : Rat, cell X d a b → pev A a * pev A b ≤ 0 → 0 < (pev A b - pev A a) * pev B a := by
  obtain ⟨c, u, v, c0, e⟩ := h
  have t1 := Rat.mul_nonneg (b0_nn hX u) (b1_nn hX A)
  have t2 := Rat.mul_nonneg (b0_nn hX v) (b2_nn hX A)
  obtain ⟨d, d0, hdd⟩ := narrow (T := b0 u X * b1 A X + b0 v X * b2 A X) (by grind)
  have rg : (1 : Rat) ≤ ga := by
    have := Rat.intCast_le_intCast.2 (show (1 : Int) ≤ ga by omega)
    rw [rat_i1] at this
    exact this
  refine ⟨d, d0, fun a b hc hu => ?_⟩
  have w1 := uns hc hu
  refine Classical.byContradiction fun hn => ?_
  obtain ⟨ha, hb, hab, hbd⟩ := hc
  obtain ⟨f, f1, f2⟩ := pev_t2 hb ha A
  rw [hd a] at f2
  have f3 : (pev A b - pev A a) * pev B a = (b - a) * (ga * (pev B a * pev B a) + (b - a) * f * pev B a) := by
    rw [f2]; grind
  have f4 : ga * (pev B a * pev B a) + (b - a) * f * pev B a ≤ 0 := by
    refine Classical.byContradiction fun q => hn ?_
    rw [f3]
    exact Rat.mul_pos (by grind) (by grind)
  have sq : pev B a * pev B a ≤ (-((b - a) * f)) * pev B a := by
    have s0 : 0 ≤ pev B a * pev B a := by
      rcases rsg_c (pev B a) with ⟨w, _⟩ | ⟨w, _⟩ | ⟨w, _⟩
      · rw [w]; grind
      · have := Rat.mul_pos w w; grind
      · have : 0 < (-pev B a) * (-pev B a) := Rat.mul_pos (by grind) (by grind)
        grind
    have s1 : 0 ≤ (ga - 1) * (pev B a * pev B a) := Rat.mul_nonneg (by grind) s0
    grind
  have w2 := small2 sq (rb_neg (rb_mul (x := b - a) (A := d) ⟨by grind, hbd⟩ f1))
  have w3 := rb_add (rb_mul (pev_rb ha u) w1) (rb_mul (pev_rb ha v) w2)
  rw [← e a] at w3
  have w4 := int_ge1 c0 w3
  have w5 := hdd d (by grind) (by grind)
  grind
/-- on a narrow cell -/
theorem sturm_cell {c : Nat → List Int} {m : Nat} (h : stu c m) (X : Rat) (hX : 0 ≤ X) : ∃ d : Rat, 0 < d ∧ ∀ a b : Rat, cell X d a b → vst c m a - vst c m b = (if pev (c 0) a ≠ 0 ∧ pev (c 0) a * pev (c 0) b ≤ 0 then 1 else 0) ∧ ¬ (pev (c 0) a = 0 ∧ pev (c 0) b = 0) := by
  obtain ⟨⟨ka, ka0, hk⟩, hcop, hin, hde⟩ := h
  have anti : ∀ (X d e a b : Rat), e ≤ d → cell X e a b → cell X d a b := fun X d e a b h1 h2 => ⟨h2.1, h2.2.1, h2.2.2.1, by have := h2.2.2.2; grind⟩
  obtain ⟨d1, p1, q1⟩ := narrows (fun i d => ∀ a b : Rat, cell X d a b → ¬ (pev (c i) a * pev (c i) b ≤ 0 ∧ pev (c (i + 1)) a * pev (c (i + 1)) b ≤ 0)) (fun i d e hP he hed a b hc => hP a b (anti X d e a b hed hc)) m (fun i hi => nar1 X hX (hcop i hi))
  obtain ⟨d2, p2, q2⟩ := narrows (fun i d => 1 ≤ i → ∀ a b : Rat, cell X d a b → pev (c i) a * pev (c i) b ≤ 0 → pev (c (i - 1)) a * pev (c (i + 1)) a < 0) (fun i d e hP he hed h1 a b hc => hP h1 a b (anti X d e a b hed hc)) m (fun i hi => by
    by_cases c1 : 1 ≤ i
    · obtain ⟨al, be, q, a0, b0', e⟩ := hin i c1 hi
      obtain ⟨d, dd, hd⟩ := nar2 X hX (hcop i hi) a0 b0' e
      exact ⟨d, dd, fun _ => hd⟩
    · exact ⟨1, by grind, fun q => absurd q c1⟩)
  obtain ⟨d3, p3, q3⟩ : ∃ d : Rat, 0 < d ∧ (1 ≤ m → ∀ a b : Rat, cell X d a b → pev (c 0) a * pev (c 0) b ≤ 0 → 0 < (pev (c 0) b - pev (c 0) a) * pev (c 1) a) := by
    by_cases c1 : 1 ≤ m
    · obtain ⟨ga, g0, e⟩ := hde c1
      obtain ⟨d, dd, hd⟩ := nar3 X hX (hcop 0 (by omega)) g0 e
      exact ⟨d, dd, fun _ => hd⟩
    · exact ⟨1, by grind, fun q => absurd q c1⟩
  obtain ⟨d, p, l1, l2, l3⟩ : ∃ d : Rat, 0 < d ∧ d ≤ d1 ∧ d ≤ d2 ∧ d ≤ d3 := by
    by_cases c1 : d1 ≤ d2
    · by_cases c2 : d1 ≤ d3
      · exact ⟨d1, p1, by grind, c1, c2⟩
      · exact ⟨d3, p3, by grind, by grind, by grind⟩
    · by_cases c2 : d2 ≤ d3
      · exact ⟨d2, p2, by grind, by grind, c2⟩
      · exact ⟨d3, p3, by grind, by grind, by grind⟩
  refine ⟨d, p, fun a b hc => ?_⟩
  have n1 := fun i hi => q1 i hi a b (anti X d1 d a b l1 hc)
  have n2 := fun i hi h1 => q2 i hi h1 a b (anti X d2 d a b l2 hc)
  have n3 := fun h1 => q3 h1 a b (anti X d3 d a b l3 hc)
  have st1 : ∀ i, ¬ (pev (c i) a * pev (c i) b ≤ 0) → rsg (pev (c i) a) = rsg (pev (c i) b) ∧ rsg (pev (c i) a) ≠ 0 := by
    intro i hi
    have s := rsg_c (pev (c i) a)
    have t := rsg_c (pev (c i) b)
    rcases s with ⟨s1, s2⟩ | ⟨s1, s2⟩ | ⟨s1, s2⟩
    · rw [s1] at hi; grind
    · rcases t with ⟨t1, t2⟩ | ⟨t1, t2⟩ | ⟨t1, t2⟩
      · rw [t1] at hi; grind
      · omega
      · have : 0 < pev (c i) a * (-pev (c i) b) := Rat.mul_pos s1 (by grind)
        grind
    · rcases t with ⟨t1, t2⟩ | ⟨t1, t2⟩ | ⟨t1, t2⟩
      · rw [t1] at hi; grind
      · have : 0 < (-pev (c i) a) * pev (c i) b := Rat.mul_pos (by grind) t1
        grind
      · omega
  have st2 : ∀ i, pev (c i) a * pev (c i) b ≤ 0 → ¬ (rsg (pev (c i) a) = rsg (pev (c i) b) ∧ rsg (pev (c i) a) ≠ 0) := by
    intro i hi hc2
    have s := rsg_c (pev (c i) a)
    have t := rsg_c (pev (c i) b)
    rcases s with ⟨s1, s2⟩ | ⟨s1, s2⟩ | ⟨s1, s2⟩
    · omega
    · rcases t with ⟨t1, t2⟩ | ⟨t1, t2⟩ | ⟨t1, t2⟩
      · omega
      · have := Rat.mul_pos s1 t1; grind
      · omega
    · rcases t with ⟨t1, t2⟩ | ⟨t1, t2⟩ | ⟨t1, t2⟩
      · omega
      · omega
      · have : 0 < (-pev (c i) a) * (-pev (c i) b) := Rat.mul_pos (by grind) (by grind)
        grind
  have vals : ∀ x : Rat, ∀ i : Nat, i ≤ m → rsg (pev (c i) x) = -1 ∨ rsg (pev (c i) x) = 0 ∨ rsg (pev (c i) x) = 1 := fun x i _ => by
    rcases rsg_c (pev (c i) x) with q | q | q
    · exact Or.inr (Or.inl q.2)
    · exact Or.inr (Or.inr q.2)
    · exact Or.inl q.2
  have kk : ¬ (pev (c m) a * pev (c m) b ≤ 0) := by
    rw [hk a, hk b]
    have kr : (ka : Rat) ≠ 0 := fun q => ka0 (Rat.intCast_eq_zero_iff.1 q)
    rcases rsg_c (ka : Rat) with ⟨w, _⟩ | ⟨w, _⟩ | ⟨w, _⟩
    · exact absurd w kr
    · have := Rat.mul_pos w w; grind
    · have : 0 < (-(ka : Rat)) * (-(ka : Rat)) := Rat.mul_pos (by grind) (by grind)
      grind
  have inner : ∀ i, 1 ≤ i → i < m → (rsg (pev (c i) a) = rsg (pev (c i) b) ∧ rsg (pev (c i) a) ≠ 0) ∨ ((rsg (pev (c (i - 1)) a) = rsg (pev (c (i - 1)) b) ∧ rsg (pev (c (i - 1)) a) ≠ 0) ∧ (rsg (pev (c (i + 1)) a) = rsg (pev (c (i + 1)) b) ∧ rsg (pev (c (i + 1)) a) ≠ 0) ∧ rsg (pev (c (i - 1)) a) = -rsg (pev (c (i + 1)) a)) := by
    intro i h1 h2
    by_cases cu : pev (c i) a * pev (c i) b ≤ 0
    · have u1 : ¬ (pev (c (i - 1)) a * pev (c (i - 1)) b ≤ 0) := fun q => n1 (i - 1) (by omega) ⟨q, by rw [show i - 1 + 1 = i by omega]; exact cu⟩
      have u2 : ¬ (pev (c (i + 1)) a * pev (c (i + 1)) b ≤ 0) := fun q => n1 i h2 ⟨cu, q⟩
      have w1 := st1 _ u1
      have w2 := st1 _ u2
      refine Or.inr ⟨w1, w2, ?_⟩
      have op := n2 i h2 h1 cu
      have s := rsg_c (pev (c (i - 1)) a)
      have t := rsg_c (pev (c (i + 1)) a)
      rcases s with ⟨s1, s2⟩ | ⟨s1, s2⟩ | ⟨s1, s2⟩
      · exact absurd s2 w1.2
      · rcases t with ⟨t1, t2⟩ | ⟨t1, t2⟩ | ⟨t1, t2⟩
        · exact absurd t2 w2.2
        · have := Rat.mul_pos s1 t1; grind
        · omega
      · rcases t with ⟨t1, t2⟩ | ⟨t1, t2⟩ | ⟨t1, t2⟩
        · exact absurd t2 w2.2
        · omega
        · have : 0 < (-pev (c (i - 1)) a) * (-pev (c (i + 1)) a) := Rat.mul_pos (by grind) (by grind)
          grind
    · exact Or.inl (st1 i cu)
  refine ⟨?_, fun hz => ?_⟩
  rotate_left
  · have hz0 : pev (c 0) a * pev (c 0) b ≤ 0 := by rw [hz.1]; grind
    by_cases m1 : 1 ≤ m
    · have w := n3 m1 hz0
      rw [hz.1, hz.2] at w
      grind
    · have em : m = 0 := by omega
      rw [em] at kk
      exact kk hz0
  unfold vst
  by_cases c0 : pev (c 0) a * pev (c 0) b ≤ 0
  · have m1 : 1 ≤ m := by
      refine Nat.le_of_not_lt fun q => ?_
      have em : m = 0 := by omega
      rw [em] at kk
      exact kk c0
    have u1 : ¬ (pev (c 1) a * pev (c 1) b ≤ 0) := fun q => n1 0 (by omega) ⟨c0, q⟩
    have w1 := st1 1 u1
    have fin := chv_stab (s := fun k => rsg (pev (c k) a)) (t := fun k => rsg (pev (c k) b)) (m := m) (d := ct0 (fun k => rsg (pev (c k) a)) - ct0 (fun k => rsg (pev (c k) b))) (vals a) (vals b) inner (Or.inr ⟨m1, w1, st2 0 c0, rfl⟩) m m (Nat.le_refl _) (Nat.le_refl _) (st1 m kk)
    have inc := n3 m1 c0
    have goal : ct0 (fun k => rsg (pev (c k) a)) - ct0 (fun k => rsg (pev (c k) b)) = (if pev (c 0) a ≠ 0 ∧ pev (c 0) a * pev (c 0) b ≤ 0 then 1 else 0) := by
      have sa := rsg_c (pev (c 0) a)
      have sb := rsg_c (pev (c 0) b)
      have s1 := rsg_c (pev (c 1) a)
      have e1 := w1.1
      have c1 : ∀ x y : Int, rsg (pev (c 0) a) = x → rsg (pev (c 1) a) = y → ct0 (fun k => rsg (pev (c k) a)) = if x = 0 then 0 else if x = y then 0 else 1 := fun x y h0 h1 => ct0_v h0 h1
      have c2 : ∀ x y : Int, rsg (pev (c 0) b) = x → rsg (pev (c 1) a) = y → ct0 (fun k => rsg (pev (c k) b)) = if x = 0 then 0 else if x = y then 0 else 1 := fun x y h0 h1 => ct0_v h0 (by rw [← h1]; exact e1.symm)
      rcases s1 with ⟨v1, v2⟩ | ⟨v1, v2⟩ | ⟨v1, v2⟩
      · exact absurd v2 w1.2
      · have up : pev (c 0) a < pev (c 0) b := by
          refine Classical.byContradiction fun q => ?_
          have : 0 ≤ (pev (c 0) a - pev (c 0) b) * pev (c 1) a := Rat.mul_nonneg (by grind) (by grind)
          grind
        rcases sa with ⟨x1, x2⟩ | ⟨x1, x2⟩ | ⟨x1, x2⟩
        · have r : (if pev (c 0) a ≠ 0 ∧ pev (c 0) a * pev (c 0) b ≤ 0 then (1 : Int) else 0) = 0 := if_neg (fun q => q.1 x1)
          rw [r, c1 _ _ x2 v2]
          rcases sb with ⟨y1, y2⟩ | ⟨y1, y2⟩ | ⟨y1, y2⟩
          · grind
          · rw [c2 _ _ y2 v2]; decide
          · grind
        · have : 0 < pev (c 0) a * pev (c 0) b := Rat.mul_pos x1 (by grind)
          grind
        · have r : (if pev (c 0) a ≠ 0 ∧ pev (c 0) a * pev (c 0) b ≤ 0 then (1 : Int) else 0) = 1 := if_pos ⟨by grind, c0⟩
          rw [r, c1 _ _ x2 v2]
          rcases sb with ⟨y1, y2⟩ | ⟨y1, y2⟩ | ⟨y1, y2⟩
          · rw [c2 _ _ y2 v2]; decide
          · rw [c2 _ _ y2 v2]; decide
          · have : 0 < (-pev (c 0) a) * (-pev (c 0) b) := Rat.mul_pos (by grind) (by grind)
            grind
      · have dn : pev (c 0) b < pev (c 0) a := by
          refine Classical.byContradiction fun q => ?_
          have : 0 ≤ (pev (c 0) b - pev (c 0) a) * (-pev (c 1) a) := Rat.mul_nonneg (by grind) (by grind)
          grind
        rcases sa with ⟨x1, x2⟩ | ⟨x1, x2⟩ | ⟨x1, x2⟩
        · have r : (if pev (c 0) a ≠ 0 ∧ pev (c 0) a * pev (c 0) b ≤ 0 then (1 : Int) else 0) = 0 := if_neg (fun q => q.1 x1)
          rw [r, c1 _ _ x2 v2]
          rcases sb with ⟨y1, y2⟩ | ⟨y1, y2⟩ | ⟨y1, y2⟩
          · grind
          · grind
          · rw [c2 _ _ y2 v2]; decide
        · have r : (if pev (c 0) a ≠ 0 ∧ pev (c 0) a * pev (c 0) b ≤ 0 then (1 : Int) else 0) = 1 := if_pos ⟨by grind, c0⟩
          rw [r, c1 _ _ x2 v2]
          rcases sb with ⟨y1, y2⟩ | ⟨y1, y2⟩ | ⟨y1, y2⟩
          · rw [c2 _ _ y2 v2]; decide
          · have : 0 < pev (c 0) a * pev (c 0) b := Rat.mul_pos x1 y1
            grind
          · rw [c2 _ _ y2 v2]; decide
        · have : 0 < (-pev (c 0) a) * (-pev (c 0) b) := Rat.mul_pos (by grind) (by grind)
          grind
    rw [← goal]
    have f1 := fin.1
    omega
  · have w0 := st1 0 c0
    have fin := chv_stab (s := fun k => rsg (pev (c k) a)) (t := fun k => rsg (pev (c k) b)) (m := m) (d := 0) (vals a) (vals b) inner (Or.inl ⟨w0.1, w0.2, rfl⟩) m m (Nat.le_refl _) (Nat.le_refl _) (st1 m kk)
    rw [if_neg (fun q => c0 q.2)]
    have f1 := fin.1
    omega
