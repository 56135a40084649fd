/-! STURM'S COUNT AND THE NUMBERS AT WHICH F TURNS -/
theorem chv_par {s : Nat → Int} (hs : ∀ i, s i = -1 ∨ s i = 0 ∨ s i = 1) (h0 : s 0 ≠ 0) : ∀ k : Nat, ((chv s (k + 1)).1 % 2 = 0 ∧ (chv s (k + 1)).2 = s 0) ∨ ((chv s (k + 1)).1 % 2 = 1 ∧ (chv s (k + 1)).2 = - s 0)
  | 0 => by
    have a := chv_s1 s 0
    rw [if_neg h0, if_neg h0] at a
    rw [a.1, a.2, show chv s 0 = (0, 0) from rfl]
    left
    exact ⟨rfl, rfl⟩
  | k + 1 => by
    have ih := chv_par hs h0 k
    have a := chv_s1 s (k + 1)
    have z0 := hs 0
    have zk := hs (k + 1)
    rw [a.1, a.2]
    by_cases q : s (k + 1) = 0
    · rw [if_pos q, if_pos q, Int.add_zero]; exact ih
    · rw [if_neg q, if_neg q]
      rcases ih with ⟨i1, i2⟩ | ⟨i1, i2⟩
      · rw [i2, if_neg h0]
        by_cases w : s (k + 1) = s 0
        · rw [if_pos w]; left; exact ⟨by omega, w⟩
        · rw [if_neg w]; right; exact ⟨by omega, by omega⟩
      · rw [i2, if_neg (by omega)]
        by_cases w : s (k + 1) = - s 0
        · rw [if_pos w]; right; exact ⟨by omega, w⟩
        · rw [if_neg w]; left; exact ⟨by omega, by omega⟩
theorem vst_par {c : Nat → List Int} {m : Nat} (h : stu c m) : ∃ k : Int, (k = 1 ∨ k = -1) ∧ ∀ x : Rat, pev (c 0) x ≠ 0 → ((vst c m x % 2 = 0 ∧ rsg (pev (c 0) x) = k) ∨ (vst c m x % 2 = 1 ∧ rsg (pev (c 0) x) = -k)) := by
  obtain ⟨ka, k0, hk⟩ := h.1
  have s1 : rsg (ka : Rat) = 1 ∨ rsg (ka : Rat) = -1 := by
    rcases rsg_c (ka : Rat) with ⟨p, _⟩ | ⟨_, p⟩ | ⟨_, p⟩
    · exact absurd (Rat.intCast_inj.1 (p.trans rat_i0.symm)) k0
    · exact Or.inl p
    · exact Or.inr p
  refine ⟨_, s1, fun x hx => ?_⟩
  have n0 : rsg (pev (c 0) x) ≠ 0 := by
    rcases rsg_c (pev (c 0) x) with ⟨p, _⟩ | ⟨_, p⟩ | ⟨_, p⟩
    · exact absurd p hx
    · rw [p]; decide
    · rw [p]; decide
  have P := chv_par (s := fun k => rsg (pev (c k) x)) (fun i => rsg_3 _) n0 m
  have la : (chv (fun k => rsg (pev (c k) x)) (m + 1)).2 = rsg (ka : Rat) := by
    rw [(chv_s1 _ m).2]
    rw [hk x, if_neg (by omega)]
  rw [la] at P
  rcases P with ⟨a, b⟩ | ⟨a, b⟩
  · exact Or.inl ⟨a, b.symm⟩
  · exact Or.inr ⟨a, by omega⟩
theorem sturm_turn {c : Nat → List Int} {m : Nat} (h : stu c m) {x y : Rat} (xy : x < y) (hn : pev (c 0) x * pev (c 0) y < 0) : vst c m y + 1 ≤ vst c m x := by
  obtain ⟨k, k1, hk⟩ := vst_par h
  have mo := sturm_mono h (Rat.le_of_lt xy)
  have s := rsg_neg hn
  rw [rsg_m] at s
  have nx : pev (c 0) x ≠ 0 := fun z => by rw [z, Rat.zero_mul] at hn; exact absurd hn (by decide)
  have ny : pev (c 0) y ≠ 0 := fun z => by rw [z, Rat.mul_zero] at hn; exact absurd hn (by decide)
  rcases hk x nx with ⟨a, b⟩ | ⟨a, b⟩ <;> rcases hk y ny with ⟨a', b'⟩ | ⟨a', b'⟩
  · rw [b, b'] at s; rcases k1 with k1 | k1 <;> subst k1 <;> omega
  · omega
  · omega
  · rw [b, b'] at s; rcases k1 with k1 | k1 <;> subst k1 <;> omega
/-- a number at which F turns, between l and r, is counted -/
theorem sturm_cut {c : Nat → List Int} {m : Nat} (h : stu c m) {l r : Rat} {a : Rat → Int} (ha : cut a) (ht : rtc (c 0) a) (hl : a l = 1) (hr : a r ≠ 1) : vst c m r + 1 ≤ vst c m l := by
  rcases ha.1 r with q | q | q
  · obtain ⟨u0, v0, b1, b2, b3⟩ := rtc_neg ht
    obtain ⟨u, p1, p2, p3⟩ := cut_mx b1 hl
    obtain ⟨v, q1, q2, q3⟩ := cut_mn b2 q
    have uv := cut_lt ha p1 q1
    have t := sturm_turn h uv (b3 u v p2 p1 q2 q1)
    have m1 := sturm_mono h p3
    have m2 := sturm_mono h q3
    omega
  · have z := rtc_q0 ha q ht
    have lr : l < r := Rat.not_le.1 fun w => by
      rcases Rat.le_iff_lt_or_eq.1 w with w | w
      · have := cut_le1 ha hl (Rat.le_of_lt w); omega
      · rw [w] at q; omega
    exact sturm_root h lr Rat.le_refl z
  · exact absurd q hr
/-- between two numbers lies a fraction, on the left of it or at it the one, on the right the other -/
theorem clt_mid {a b : Rat → Int} (ha : cut a) (hb : cut b) (h : clt a b) : ∃ y, a y ≠ 1 ∧ b y = 1 := by
  obtain ⟨x, hx⟩ := h
  rcases hb.1 x with q | q | q
  · rcases ha.1 x with p | p | p <;> omega
  · have p : a x = -1 := by rcases ha.1 x with p | p | p <;> omega
    obtain ⟨y, y1, y2⟩ := ha.2.2.2.2 x p
    exact ⟨y, by omega, hb.2.1 y x y1 (by omega)⟩
  · exact ⟨x, by omega, q⟩
/-- where the count falls by one there is at most one such number -/
theorem sturm_one {c : Nat → List Int} {m : Nat} (h : stu c m) {l r : Rat} {a b : Rat → Int} (ha : cut a) (hb : cut b) (ta : rtc (c 0) a) (tb : rtc (c 0) b) (al : a l = 1) (ar : a r ≠ 1) (bl : b l = 1) (br : b r ≠ 1) (hv : vst c m l - vst c m r ≤ 1) : a = b := by
  have key : ∀ {a b : Rat → Int}, cut a → cut b → rtc (c 0) a → rtc (c 0) b → a l = 1 → b r ≠ 1 → clt a b → False := fun {a b} ha hb ta tb al br q => by
    obtain ⟨y, y1, y2⟩ := clt_mid ha hb q
    have s1 := sturm_cut h ha ta al y1
    have s2 := sturm_cut h hb tb y2 br
    omega
  refine Classical.byContradiction fun n => ?_
  rcases clt_tri n with q | q
  · exact key ha hb ta tb al br q
  · exact key hb ha tb ta bl ar q
/-- where the count falls by one there is such a number -/
theorem sturm_ex {c : Nat → List Int} {m : Nat} (h : stu c m) (hs : sqf (c 0)) {l r : Rat} (lr : l < r) (hv : vst c m l - vst c m r = 1) : ∃ a, cut a ∧ rtc (c 0) a ∧ (a l = 1 ∧ a r ≠ 1) ∧ ((∃ x, l < x ∧ x ≤ r ∧ pev (c 0) x = 0 ∧ a = qct x) ∨ ((∀ x, l < x → x ≤ r → pev (c 0) x ≠ 0) ∧ ∀ x, l < x → x ≤ r → a x = rsg (pev (c 0) r) * - rsg (pev (c 0) x))) := by
  by_cases q : ∃ x, l < x ∧ x ≤ r ∧ pev (c 0) x = 0
  · obtain ⟨x, x1, x2, x3⟩ := q
    refine ⟨qct x, qct_cut x, rtc_qs hs x3, ⟨rsg_pos (by grind), fun z => ?_⟩, Or.inl ⟨x, x1, x2, x3, rfl⟩⟩
    have := rsg_p z
    grind
  · have nz : ∀ x, l < x → x ≤ r → pev (c 0) x ≠ 0 := fun x h1 h2 z => q ⟨x, h1, h2, z⟩
    obtain ⟨k, k1, hk⟩ := vst_par h
    have s3 : ∀ x, l < x → x ≤ r → (rsg (pev (c 0) x) = rsg (pev (c 0) r) ↔ vst c m x = vst c m r) := fun x h1 h2 => by
      have m1 := sturm_mono h (Rat.le_of_lt h1)
      have m2 := sturm_mono h h2
      rcases hk x (nz x h1 h2) with ⟨a, b⟩ | ⟨a, b⟩ <;> rcases hk r (nz r lr Rat.le_refl) with ⟨a', b'⟩ | ⟨a', b'⟩ <;> rw [b, b']
      · exact ⟨fun _ => by omega, fun _ => rfl⟩
      · exact ⟨fun z => by rcases k1 with k1 | k1 <;> omega, fun z => by omega⟩
      · exact ⟨fun z => by rcases k1 with k1 | k1 <;> omega, fun z => by omega⟩
      · exact ⟨fun _ => by omega, fun _ => rfl⟩
    -- near l on its right the count is that of l
    obtain ⟨l', l1, l2, l3⟩ : ∃ l', l < l' ∧ l' < r ∧ vst c m l' = vst c m l := by
      obtain ⟨r1, r2, X0⟩ := sq_rb l r
      obtain ⟨d, d0, hd⟩ := sturm_cell h _ X0
      obtain ⟨K, e, K1, e0, ed, eb⟩ := steps lr (show 0 < (if d ≤ (r - l) / 2 then d else (r - l) / 2) by split <;> grind)
      have ed1 : e ≤ d := by split at ed <;> grind
      have ed2 : e ≤ (r - l) / 2 := by split at ed <;> grind
      have all : ∀ e' : Rat, 0 < e' → e' ≤ e → vst c m l - vst c m (l + e') = (if pev (c 0) l ≠ 0 ∧ pev (c 0) l * pev (c 0) (l + e') ≤ 0 then 1 else 0) := fun e' h1 h2 => (hd l (l + e') ⟨r1, ⟨by have := r1.1; grind, by have := r2.2; grind⟩, by grind, by grind⟩).1
      by_cases z : pev (c 0) l = 0
      · refine ⟨l + e, by grind, by grind, ?_⟩
        have := all e e0 Rat.le_refl
        rw [if_neg (fun w => w.1 z)] at this
        omega
      · obtain ⟨f, f0, hf⟩ := contB z
        obtain ⟨e', g0, g1, g2⟩ : ∃ e' : Rat, 0 < e' ∧ e' ≤ e ∧ e' ≤ f := by
          by_cases w : e ≤ f
          · exact ⟨e, e0, Rat.le_refl, w⟩
          · exact ⟨f, f0, Rat.le_of_lt (Rat.not_le.1 w), Rat.le_refl⟩
        refine ⟨l + e', by grind, by grind, ?_⟩
        have a1 := all e' g0 g1
        have a2 := hf (l + e') (by grind) (by grind)
        rw [if_neg (fun w => ?_)] at a1
        · omega
        · have : rsg (pev (c 0) l * pev (c 0) (l + e')) = 1 := by
            rw [rsg_m, a2]
            rcases rsg_c (pev (c 0) l) with ⟨p, _⟩ | ⟨_, p⟩ | ⟨_, p⟩
            · exact absurd p z
            · rw [p]; rfl
            · rw [p]; rfl
          have := rsg_p this
          have := w.2
          grind
    have nl := nz l' l1 (Rat.le_of_lt l2)
    have nr := nz r lr Rat.le_refl
    obtain ⟨t, ht⟩ : ∃ t, t = rsg (pev (c 0) l') := ⟨_, rfl⟩
    have t1 : t = 1 ∨ t = -1 := by
      rw [ht]
      rcases rsg_c (pev (c 0) l') with ⟨p, _⟩ | ⟨_, p⟩ | ⟨_, p⟩
      · exact absurd p nl
      · exact Or.inl p
      · exact Or.inr p
    have n3 : ∀ x, pev (c 0) x ≠ 0 → rsg (pev (c 0) x) = t ∨ rsg (pev (c 0) x) = -t := fun x hx => by
      rcases rsg_c (pev (c 0) x) with ⟨p, _⟩ | ⟨_, p⟩ | ⟨_, p⟩
      · exact absurd p hx
      · omega
      · omega
    have tr : rsg (pev (c 0) r) = -t := by
      rcases n3 r nr with w | w
      · have := (s3 l' l1 (Rat.le_of_lt l2)).1 (by rw [← ht, w])
        omega
      · exact w
    have hiso : iso (c 0) l' r t := ⟨l2, t1, ht.symm, tr, fun x y h1 h2 h3 h4 => by
      have ny := nz y (by grind) h3
      have nx := nz x (by grind) (by grind)
      rcases n3 x nx with w | w
      · exact w
      · exfalso
        have v1 := (s3 x (by grind) (by grind)).1 (by rw [w, tr])
        have m1 := sturm_mono h (Rat.le_of_lt h2)
        have m2 := sturm_mono h h3
        exact h4 (by rw [(s3 y (by grind) h3).2 (by omega), tr])⟩
    refine ⟨ict (c 0) l' r t, ict_cut hiso, ict_rtc hiso, ⟨if_pos (Rat.le_of_lt l1), ?_⟩, Or.inr ⟨nz, fun x h1 h2 => ?_⟩⟩
    · unfold ict; rw [if_neg (by grind), if_pos Rat.le_refl]; decide
    · rw [tr]
      by_cases w : x ≤ l'
      · have : ict (c 0) l' r t x = 1 := if_pos w
        rw [this]
        have v1 := sturm_mono h (Rat.le_of_lt h1)
        have v2 := sturm_mono h w
        rcases n3 x (nz x h1 h2) with z | z
        · rw [z]; rcases t1 with t1 | t1 <;> rw [t1] <;> rfl
        · have := (s3 x h1 h2).1 (by rw [z, tr])
          omega
      · rw [ict_in hiso (by grind) h2]
        grind
