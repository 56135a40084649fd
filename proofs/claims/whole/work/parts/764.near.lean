/-! THE SIGN NEAR THE RIGHT END OF A NODE WITH ONE CHANGE -/
theorem rlt_or {a b : Rat} (h : a ≠ b) : a < b ∨ b < a := by grind
theorem lst1_up : ∀ (r : List Int) (a : Int), lst1 (pup a r) = lst1 (a :: r)
  | [], a => rfl
  | x :: r, a => by
    have ih := lst1_up r x
    have ne : ∃ y s, pup x r = y :: s := by cases r <;> exact ⟨_, _, rfl⟩
    obtain ⟨y, s, e⟩ := ne
    show lst1 ((a + x) :: pup x r) = lst1 (x :: r)
    rw [← ih, e]; rfl
theorem lst1_S : ∀ q : List Int, lst1 (pS q) = lst1 q
  | [] => rfl
  | [a] => rfl
  | a :: b :: p => by
    have ih := lst1_S (b :: p)
    show lst1 (pup a (pS (b :: p))) = lst1 (b :: p)
    rw [lst1_up, ← ih]
    obtain ⟨y, s, e⟩ : ∃ y s, pS (b :: p) = y :: s := by
      have := pS_len (b :: p)
      cases h : pS (b :: p) with
      | nil => rw [h] at this; simp at this
      | cons y s => exact ⟨y, s, rfl⟩
    rw [e]; rfl
theorem lst1_app : ∀ (p : List Int) (a : Int), lst1 (p ++ [a]) = a
  | [], a => rfl
  | [b], a => rfl
  | b :: c :: p, a => lst1_app (c :: p) a
theorem lst1_T (m : List Int) : lst1 (pT m) = pgt m 0 := by
  rw [pT, lst1_S]
  cases m with
  | nil => rfl
  | cons a p => rw [List.reverse_cons, lst1_app]; rfl
theorem pev_app (s : Rat) : ∀ (p : List Int) (a : Int), pev (p ++ [a]) s = pev p s + s ^ p.length * a
  | [], a => by show (a : Rat) + s * 0 = 0 + s ^ 0 * a; grind
  | b :: p, a => by
    show (b : Rat) + s * pev (p ++ [a]) s = (b : Rat) + s * pev p s + s ^ (p.length + 1) * a
    rw [pev_app s p a]; grind
theorem rev_ev {s : Rat} (hs : s ≠ 0) : ∀ m : List Int, s * pev m.reverse s = s ^ m.length * pev m (1 / s)
  | [] => by show s * 0 = s ^ 0 * 0; grind
  | a :: p => by
    have ih := rev_ev hs p
    rw [List.reverse_cons, pev_app, List.length_reverse, Rat.mul_add, ih, pev_c, List.length_cons]
    grind
theorem rp_pos {x : Rat} (h : 0 < x) : ∀ n : Nat, 0 < x ^ n
  | 0 => by grind
  | n + 1 => by rw [Rat.pow_succ]; exact Rat.mul_pos (rp_pos h n) h
theorem leaf_near {m : List Int} (h0 : pgt m 0 ≠ 0) (h1 : pV m = 1) : ∃ e : Rat, 0 < e ∧ ∀ y : Rat, 1 - e < y → y < 1 → pev m 0 * pev m y < 0 := by
  have hl : lst1 (pT m) ≠ 0 := by rw [lst1_T]; exact h0
  have hf := vr_1 (pT m) h1 hl
  rw [lst1_T] at hf
  have f0 : fnz (pT m) ≠ 0 := fun z => by rw [z, Int.zero_mul] at hf; omega
  obtain ⟨e, e0, he⟩ := near_fnz (pT m) f0
  refine ⟨e / (1 + e), ?_, fun y y1 y2 => ?_⟩
  · rw [Rat.div_def]; exact Rat.mul_pos e0 (Rat.inv_pos.2 (by grind))
  · have p1 : (0 : Rat) < 1 + e := by grind
    have k1 : 1 < y * (1 + e) := by
      have a : (1 - e / (1 + e)) * (1 + e) < y * (1 + e) := Rat.mul_lt_mul_of_pos_right y1 p1
      have b : (1 - e / (1 + e)) * (1 + e) = 1 := by grind
      grind
    have y0 : 0 < y := by
      refine Rat.not_le.1 fun c => ?_
      have : y * (1 + e) ≤ 0 * (1 + e) := Rat.mul_le_mul_of_nonneg_right c (by grind)
      grind
    have yn : y ≠ 0 := by grind
    have s1 : 1 < 1 / y := by
      rw [Rat.lt_div_iff y0]; grind
    have s2 : 1 / y < 1 + e := by
      rw [Rat.div_lt_iff y0]; grind
    have g := he (1 / y - 1) (by grind) (by grind)
    rw [pT, pS_ev, show (1 : Rat) + (1 / y - 1) = 1 / y by grind] at g
    have sn : (1 / y : Rat) ≠ 0 := by grind
    have rv := rev_ev sn m
    rw [show (1 : Rat) / (1 / y) = y by grind] at rv
    have sp := rp_pos (show (0 : Rat) < 1 / y by grind) m.length
    rw [pev_0]
    have hf' : ((fnz (pT m) : Int) : Rat) * (pgt m 0 : Rat) < 0 := by
      rw [← Rat.intCast_mul]
      have : ((fnz (pT m) * pgt m 0 : Int) : Rat) < ((0 : Int) : Rat) := Rat.intCast_lt_intCast.2 hf
      exact this
    rw [← show pT m = pS m.reverse from rfl] at g
    generalize ((fnz (pT m) : Int) : Rat) = F at g hf'
    generalize (pgt m 0 : Rat) = M at hf' ⊢
    generalize pev m.reverse (1 / y) = V at g rv
    generalize (1 / y) ^ m.length = S at rv sp
    generalize pev m y = U at rv ⊢
    have v1 : 0 < F * (S * U) := by
      rw [← rv, show F * (1 / y * V) = (1 / y) * (F * V) by grind]
      exact Rat.mul_pos (by grind) g
    have v2 : 0 < F * U := by
      refine Rat.not_le.1 fun c => ?_
      have : S * (F * U) ≤ S * 0 := Rat.mul_le_mul_of_nonneg_left c (by grind)
      grind
    rcases rlt_or (show F ≠ 0 by grind) with q | q
    · have u : U < 0 := by
        refine Rat.not_le.1 fun c => ?_
        have : (-F) * U ≥ (-F) * 0 := Rat.mul_le_mul_of_nonneg_left c (by grind)
        grind
      have mm : 0 < M := by
        refine Rat.not_le.1 fun c => ?_
        have : (-F) * M ≤ (-F) * 0 := Rat.mul_le_mul_of_nonneg_left c (by grind)
        grind
      have := Rat.mul_pos mm (show 0 < -U by grind)
      grind
    · have u : 0 < U := by
        refine Rat.not_le.1 fun c => ?_
        have : F * U ≤ F * 0 := Rat.mul_le_mul_of_nonneg_left c (by grind)
        grind
      have mm : M < 0 := by
        refine Rat.not_le.1 fun c => ?_
        have : F * M ≥ F * 0 := Rat.mul_le_mul_of_nonneg_left c (by grind)
        grind
      have := Rat.mul_pos (show 0 < -M by grind) u
      grind
/-- near the right end the sign is the other one than at the left end -/
def nr (f : List Int) (l r : Rat) : Prop := ∃ e : Rat, 0 < e ∧ ∀ x : Rat, r - e < x → x < r → pev f l * pev f x < 0
theorem nr_node {a : List Int} {t : Nat} {c : Int} (h1 : -(2 ^ t) ≤ c) (h2 : c ≤ 2 ^ t) (h0 : pgt (nM a t c) 0 ≠ 0) (hV : vN a t c = 1) : nr a ((c : Rat) / 2 ^ t + 1) (((c + 1 : Int) : Rat) / 2 ^ t + 1) := by
  obtain ⟨e, e0, he⟩ := leaf_near h0 hV
  have tp : (0 : Rat) < 2 ^ t := rp_pos (by grind) t
  have kp : (0 : Rat) < 2 ^ (t * (a.length - 1)) := rp_pos (by grind) _
  have v0 := nM_ev a ((c : Rat) / 2 ^ t) t c h1 h2
  rw [show (2 : Rat) ^ t * ((c : Rat) / 2 ^ t) - c = 0 by grind] at v0
  refine ⟨e / 2 ^ t, by rw [Rat.div_def]; exact Rat.mul_pos e0 (Rat.inv_pos.2 tp), fun x x1 x2 => ?_⟩
  rw [Rat.intCast_add, rat_i1] at x1 x2
  have v1 := nM_ev a (x - 1) t c h1 h2
  rw [show x - 1 + 1 = x by grind] at v1
  have y1 : 1 - e < 2 ^ t * (x - 1) - c := by
    have := Rat.mul_lt_mul_of_pos_left x1 tp
    have z : (2 : Rat) ^ t * (((c : Rat) + 1) / 2 ^ t + 1 - e / 2 ^ t) = c + 1 + 2 ^ t - e := by grind
    grind
  have y2 : 2 ^ t * (x - 1) - c < 1 := by
    have := Rat.mul_lt_mul_of_pos_left x2 tp
    have z : (2 : Rat) ^ t * (((c : Rat) + 1) / 2 ^ t + 1) = c + 1 + 2 ^ t := by grind
    grind
  have g := he _ y1 y2
  rw [v0, v1] at g
  generalize pev a ((c : Rat) / 2 ^ t + 1) = A at g ⊢
  generalize pev a x = B at g ⊢
  generalize (2 : Rat) ^ (t * (a.length - 1)) = K at g kp
  refine Rat.not_le.1 fun q => ?_
  have : 0 ≤ (K * K) * (A * B) := Rat.mul_nonneg (Rat.mul_nonneg (by grind) (by grind)) q
  grind
/-- a factor with its zero not left of the right end -/
theorem nr_lin {f g : List Int} {al be : Rat} {l r : Rat} (hlr : l < r) (e : ∀ x : Rat, pev f x = (al + be * x) * pev g x) (hb : 0 < be) (hz : al + be * r ≤ 0) (h : nr f l r) : nr g l r := by
  obtain ⟨d, d0, hd⟩ := h
  refine ⟨d, d0, fun x x1 x2 => ?_⟩
  have q := hd x x1 x2
  rw [e, e] at q
  have n1 : al + be * l < 0 := by
    have := Rat.mul_lt_mul_of_pos_left hlr hb
    grind
  have n2 : al + be * x < 0 := by
    have := Rat.mul_lt_mul_of_pos_left x2 hb
    grind
  refine Rat.not_le.1 fun z => ?_
  have k : 0 < (-(al + be * l)) * (-(al + be * x)) := Rat.mul_pos (by grind) (by grind)
  have : 0 ≤ ((-(al + be * l)) * (-(al + be * x))) * (pev g l * pev g x) := Rat.mul_nonneg (by grind) z
  grind
/-- values near a place -/
theorem pev_lip : ∀ (f : List Int) (r : Rat), ∃ B : Rat, 0 ≤ B ∧ ∀ x : Rat, r - 1 ≤ x → x ≤ r → pev f x - pev f r ≤ B * (r - x) ∧ -(B * (r - x)) ≤ pev f x - pev f r
  | [], r => ⟨0, by grind, fun x _ _ => ⟨by show (0 : Rat) - 0 ≤ _; grind, by show _ ≤ (0 : Rat) - 0; grind⟩⟩
  | a :: p, r => by
    obtain ⟨B, B0, hB⟩ := pev_lip p r
    obtain ⟨V, V0, hV⟩ : ∃ V : Rat, 0 ≤ V ∧ pev p r ≤ V ∧ -V ≤ pev p r := by
      by_cases c : (0 : Rat) ≤ pev p r
      · exact ⟨_, c, by grind, by grind⟩
      · exact ⟨-(pev p r), by grind, by grind, by grind⟩
    obtain ⟨X, X0, hX⟩ : ∃ X : Rat, 0 ≤ X ∧ ∀ x : Rat, r - 1 ≤ x → x ≤ r → x ≤ X ∧ -X ≤ x := by
      by_cases c : (0 : Rat) ≤ r
      · exact ⟨r + 1, by grind, fun x _ _ => ⟨by grind, by grind⟩⟩
      · exact ⟨1 - r, by grind, fun x _ _ => ⟨by grind, by grind⟩⟩
    refine ⟨X * B + V, by have := Rat.mul_nonneg X0 B0; grind, fun x x1 x2 => ?_⟩
    have hb := hB x x1 x2
    have hx := hX x x1 x2
    rw [pev_c, pev_c]
    have e : (a : Rat) + x * pev p x - ((a : Rat) + r * pev p r) = x * (pev p x - pev p r) - (r - x) * pev p r := by grind
    rw [e]
    have w0 : 0 ≤ r - x := by grind
    have bw : 0 ≤ B * (r - x) := Rat.mul_nonneg B0 w0
    have m1 : (r - x) * pev p r ≤ (r - x) * V := Rat.mul_le_mul_of_nonneg_left hV.1 w0
    have m2 : (r - x) * (-V) ≤ (r - x) * pev p r := Rat.mul_le_mul_of_nonneg_left hV.2 w0
    have prod : ∀ u v U W : Rat, u ≤ U → -U ≤ u → v ≤ W → -W ≤ v → 0 ≤ U → 0 ≤ W → u * v ≤ U * W ∧ -(U * W) ≤ u * v := by
      intro u v U W a1 a2 b1 b2 u0 w0
      by_cases c : 0 ≤ u
      · have p1 : u * v ≤ u * W := Rat.mul_le_mul_of_nonneg_left b1 c
        have p2 : u * W ≤ U * W := Rat.mul_le_mul_of_nonneg_right a1 w0
        have p3 : u * (-W) ≤ u * v := Rat.mul_le_mul_of_nonneg_left b2 c
        constructor <;> grind
      · have p1 : (-u) * v ≤ (-u) * W := Rat.mul_le_mul_of_nonneg_left b1 (by grind)
        have p2 : (-u) * W ≤ U * W := Rat.mul_le_mul_of_nonneg_right (by grind) w0
        have p3 : (-u) * (-W) ≤ (-u) * v := Rat.mul_le_mul_of_nonneg_left b2 (by grind)
        constructor <;> grind
    have m3 := prod x (pev p x - pev p r) X (B * (r - x)) hx.1 hx.2 hb.1 hb.2 X0 bw
    constructor <;> grind
theorem nr_end {f : List Int} {l r : Rat} (h : nr f l r) (h0 : pev f r ≠ 0) : pev f l * pev f r < 0 := by
  obtain ⟨e, e0, he⟩ := h
  obtain ⟨B, B0, hB⟩ := pev_lip f r
  obtain ⟨V, V0, hV⟩ : ∃ V : Rat, 0 < V ∧ (V = pev f r ∨ V = -(pev f r)) := by
    rcases rlt_or h0 with q | q
    · exact ⟨_, by grind, Or.inr rfl⟩
    · exact ⟨_, q, Or.inl rfl⟩
  obtain ⟨w, w0, w1, w2, w3⟩ : ∃ w : Rat, 0 < w ∧ w < e ∧ w ≤ 1 ∧ B * w < V := by
    have p1 : 0 < V / (B + 1) := by rw [Rat.div_def]; exact Rat.mul_pos V0 (Rat.inv_pos.2 (by grind))
    have p2 : B * (V / (B + 1)) < V := by
      have : V / (B + 1) * (B + 1) = V := Rat.div_mul_cancel (by grind)
      grind
    have mono : ∀ w : Rat, w ≤ V / (B + 1) → B * w < V := fun w hw => by
      have := Rat.mul_le_mul_of_nonneg_left hw B0
      grind
    by_cases c : V / (B + 1) < e / 2
    · by_cases c1 : V / (B + 1) ≤ 1
      · exact ⟨_, p1, by grind, c1, p2⟩
      · exact ⟨1, by grind, by grind, by grind, mono 1 (by grind)⟩
    · by_cases c1 : e / 2 ≤ 1
      · exact ⟨e / 2, by grind, by grind, c1, mono _ (by grind)⟩
      · exact ⟨1, by grind, by grind, by grind, mono 1 (by grind)⟩
  have q := he (r - w) (by grind) (by grind)
  have hb := hB (r - w) (by grind) (by grind)
  rw [show r - (r - w) = w by grind] at hb
  generalize pev f (r - w) = X at q hb
  generalize pev f r = R at hb hV h0 ⊢
  generalize pev f l = L at q ⊢
  have same : 0 < X * R := by
    rcases hV with v | v
    · exact Rat.mul_pos (by grind) (by grind)
    · have := Rat.mul_pos (show 0 < -X by grind) (show 0 < -R by grind)
      grind
  refine Rat.not_le.1 fun z => ?_
  have xx : 0 < X * X := by
    have xn : X ≠ 0 := fun h => by rw [h] at same; grind
    rcases rlt_or xn with u | u
    · have := Rat.mul_pos (show 0 < -X by grind) (show 0 < -X by grind)
      grind
    · exact Rat.mul_pos u u
  have k1 : 0 ≤ (L * R) * (X * X) := Rat.mul_nonneg z (by grind)
  have k2 : 0 < (-(L * X)) * (X * R) := Rat.mul_pos (by grind) same
  grind
