/-! THE TEXT THAT IS HELD: what type and four write -/
def ap1 (b n : Int) (f : Nat → Int) (n' : Int) (f' : Nat → Int) : Prop := (∀ k : Nat, (k : Int) < n → f' k = f k) ∧ ((b = 0 ∧ n' = n) ∨ (b ≠ 0 ∧ n' = n + 1 ∧ f' n.toNat = b))
def chF (B : Nat → Int) (n0 : Int) (f0 : Nat → Int) : Nat → Int → (Nat → Int) → Prop
  | 0, n, f => n = n0 ∧ ∀ k : Nat, (k : Int) < n0 → f k = f0 k
  | t + 1, n, f => ∃ n1 f1, chF B n0 f0 t n1 f1 ∧ ap1 (B t) n1 f1 n f
def bsm (B : Nat → Int) : Nat → Int
  | 0 => 0
  | t + 1 => bsm B t + bn (B t)
/-- two rows that agree below n, and hold signs there -/
def agr (n : Int) (f g : Nat → Int) : Prop := ∀ k : Nat, (k : Int) < n → f k = g k ∧ 32 ≤ f k ∧ f k ≤ 126
theorem chF_n {B : Nat → Int} {n0 : Int} {f0 : Nat → Int} : ∀ {t : Nat} {n : Int} {f : Nat → Int}, chF B n0 f0 t n f → n = n0 + bsm B t
  | 0, n, f, h => by have := h.1; simp only [bsm]; omega
  | t + 1, n, f, ⟨n1, f1, h, h1⟩ => by
    have := chF_n h
    have e : bsm B (t + 1) = bsm B t + bn (B t) := rfl
    rcases h1.2 with ⟨b, e1⟩ | ⟨b, e1, _⟩
    · have : bn (B t) = 0 := by unfold bn; rw [if_pos b]
      omega
    · have : bn (B t) = 1 := by unfold bn; rw [if_neg b]
      omega
theorem bsm_le {B : Nat → Int} {t : Nat} : ∀ {u : Nat}, t ≤ u → bsm B t ≤ bsm B u
  | 0, h => by rw [show t = 0 by omega]; omega
  | u + 1, h => by
    by_cases c : t = u + 1
    · rw [c]; omega
    · have := bsm_le (B := B) (t := t) (u := u) (by omega)
      have := (bn_b (B u)).1
      show _ ≤ bsm B u + bn (B u)
      omega
theorem bsm_b {B : Nat → Int} : ∀ t : Nat, 0 ≤ bsm B t ∧ bsm B t ≤ t
  | 0 => by simp only [bsm]; omega
  | t + 1 => by
    have := bsm_b (B := B) t
    have := bn_b (B t)
    show 0 ≤ bsm B t + bn (B t) ∧ bsm B t + bn (B t) ≤ _
    omega
theorem ap1_agr {b n n' n'' : Int} {f g f' g' : Nat → Int} (h : ap1 b n f n' f') (h2 : ap1 b n g n'' g') (hb : bok b) (ha : agr n f g) : n' = n'' ∧ agr n' f' g' := by
  obtain ⟨k1, h⟩ := h
  obtain ⟨k2, h2⟩ := h2
  have old : ∀ k : Nat, (k : Int) < n → f' k = g' k ∧ 32 ≤ f' k ∧ f' k ≤ 126 := fun k hk => by
    obtain ⟨x, y, z⟩ := ha k hk
    rw [k1 k hk, k2 k hk]; exact ⟨x, y, z⟩
  rcases h with ⟨e, en⟩ | ⟨e, en, ev⟩
  · rcases h2 with ⟨e2, en2⟩ | ⟨e2, _⟩
    · exact ⟨by omega, fun k hk => old k (by omega)⟩
    · exact absurd e e2
  · rcases h2 with ⟨e2, en2⟩ | ⟨_, en2, ev2⟩
    · exact absurd e2 e
    · refine ⟨by omega, fun k hk => ?_⟩
      by_cases c : (k : Int) < n
      · exact old k c
      · have ek : k = n.toNat := by omega
        subst ek
        rw [ev, ev2]
        rcases hb with hb | hb
        · exact absurd hb e
        · exact ⟨rfl, hb⟩
theorem chF_agr {B : Nat → Int} {n0 : Int} {f0 g0 : Nat → Int} (ha : agr n0 f0 g0) : ∀ {t : Nat} {n n2 : Int} {f g : Nat → Int}, (∀ i, i < t → bok (B i)) → chF B n0 f0 t n f → chF B n0 g0 t n2 g → n = n2 ∧ agr n f g
  | 0, n, n2, f, g, _, h, h2 => ⟨by rw [h.1, h2.1], fun k hk => by
      have hk' : (k : Int) < n0 := by rw [← h.1]; exact hk
      rw [h.2 k hk', h2.2 k hk']; exact ha k hk'⟩
  | t + 1, n, n2, f, g, hb, ⟨n1, f1, h, h1⟩, ⟨n3, f3, h2, h3⟩ => by
    obtain ⟨e, a⟩ := chF_agr ha (fun i hi => hb i (by omega)) h h2
    subst e
    exact ap1_agr h1 h3 (hb t (by omega)) a
def fsq (x n : Int) (f : Nat → Int) (n' : Int) (f' : Nat → Int) : Prop := (n' = n ∧ (∀ k : Nat, (k : Int) < n → f' k = f k) ∧ (¬ ball x ∨ 400 < n + bcn x)) ∨ (ball x ∧ n + bcn x ≤ 400 ∧ chF (bB x) n f 4 n' f')
theorem ball_i {x : Int} : ball x ↔ ∀ i, i < 4 → bok (bB x i) := by
  constructor
  · intro h i hi
    match i, hi with
    | 0, _ => exact h.1
    | 1, _ => exact h.2.1
    | 2, _ => exact h.2.2.1
    | 3, _ => exact h.2.2.2
  · intro h
    exact ⟨h 0 (by omega), h 1 (by omega), h 2 (by omega), h 3 (by omega)⟩
theorem bsm_4 (x : Int) : bsm (bB x) 4 = bcn x := by
  show 0 + bn (bt x 16777216) + bn (bt x 65536) + bn (bt x 256) + bn (bt x 1) = _
  unfold bcn
  omega
theorem fsq_agr {x n n' n2 : Int} {f g f' g' : Nat → Int} (h : fsq x n f n' f') (h2 : fsq x n g n2 g') (ha : agr n f g) : n' = n2 ∧ agr n' f' g' := by
  rcases h with ⟨e, k, w⟩ | ⟨b, l, c⟩
  · rcases h2 with ⟨e2, k2, _⟩ | ⟨b2, l2, _⟩
    · exact ⟨by omega, fun i hi => by rw [k i (by omega), k2 i (by omega)]; exact ha i (by omega)⟩
    · rcases w with w | w
      · exact absurd b2 w
      · omega
  · rcases h2 with ⟨e2, k2, w⟩ | ⟨b2, l2, c2⟩
    · rcases w with w | w
      · exact absurd b w
      · omega
    · exact chF_agr ha (ball_i.1 b) c c2
def tyq (x n : Int) (f : Nat → Int) (n' : Int) (f' : Nat → Int) : Prop := (n' = n ∧ (∀ k : Nat, (k : Int) < n → f' k = f k) ∧ (x < 32 ∨ 126 < x ∨ 400 ≤ n)) ∨ (32 ≤ x ∧ x ≤ 126 ∧ n < 400 ∧ ap1 x n f n' f')
theorem tyq_agr {x n n' n2 : Int} {f g f' g' : Nat → Int} (h : tyq x n f n' f') (h2 : tyq x n g n2 g') (ha : agr n f g) : n' = n2 ∧ agr n' f' g' := by
  rcases h with ⟨e, k, w⟩ | ⟨a, b, l, c⟩
  · rcases h2 with ⟨e2, k2, _⟩ | ⟨_, _, _, _⟩
    · exact ⟨by omega, fun i hi => by rw [k i (by omega), k2 i (by omega)]; exact ha i (by omega)⟩
    · omega
  · rcases h2 with ⟨e2, k2, w⟩ | ⟨_, _, _, c2⟩
    · omega
    · exact ap1_agr c c2 (Or.inr ⟨a, b⟩) ha
/-- one sign more, as it is written -/
theorem ap1_w {s s1 s2 : im_S} {c o q : Nat} {b n : Int} (hn : s.1 o q = n) (h0 : 0 ≤ n) (h4 : n < 400) (hb : b ≠ 0) (e1 : s1 = cpa s c (cgf s o q) b) (e2 : s2 = cpf s1 o q (w32 (cgf s1 o q + 1))) : ap1 b n (s.2 c) (s2.1 o q) (s2.2 c) := by
  have en : cgf s o q = n := hn
  have en1 : cgf s1 o q = n := by rw [e1]; exact hn
  refine ⟨fun k hk => ?_, Or.inr ⟨hb, ?_, ?_⟩⟩
  · rw [e2, e1]
    show im_up s.2 c (cgf s o q).toNat b c k = _
    rw [en]
    exact im_up_ne (fun z => by have := z.2; omega)
  · rw [e2, cpf_same, en1, w32_id (by omega) (by omega)]
  · rw [e2, e1]
    show im_up s.2 c (cgf s o q).toNat b c n.toNat = _
    rw [en]
    exact im_up_same _ _ _ _
theorem ap1_z {n : Int} {f : Nat → Int} {b : Int} (hb : b = 0) : ap1 b n f n f := ⟨fun _ _ => rfl, Or.inl ⟨hb, rfl⟩⟩
theorem sgn_z {b v : Int} (ev : v = (if b < 32 then 0 else (if 126 < b then 0 else 1))) : (v = 0 → ¬ (32 ≤ b ∧ b ≤ 126)) ∧ (v ≠ 0 → 32 ≤ b ∧ b ≤ 126) := by
  split at ev
  · exact ⟨fun _ => by omega, fun z => by omega⟩
  · split at ev
    · exact ⟨fun _ => by omega, fun z => by omega⟩
    · exact ⟨fun _ => by omega, fun z => by omega⟩
/-- type of the class -/
theorem type_tC {x : Int} {s : im_S} {Q : Int → im_S → Prop} (h0 : 0 ≤ s.1 0 0) (hQ : ∀ z s', tyq x (s.1 0 0) (s.2 3) (s'.1 0 0) (s'.2 3) → Q z s') : C_type9 x s Q := by
  intro v ev
  have bad : (x < 32 ∨ 126 < x ∨ 400 ≤ s.1 0 0) → Q (-1) s := fun w => hQ _ _ (Or.inl ⟨rfl, fun _ _ => rfl, w⟩)
  refine ⟨fun z => bad (by have := (sgn_z ev).1 z; omega), fun z => ⟨fun c _ s1 e1 s2 e2 => hQ _ _ (Or.inr ?_), fun c => bad (by unfold cgf at c; omega)⟩⟩
  have x1 := (sgn_z ev).2 z
  rw [c16_id (by omega) (by omega)] at e1
  exact ⟨x1.1, x1.2, c, ap1_w rfl h0 c (by omega) e1 e2⟩
theorem type_tR {x : Int} {s : im_S} {Q : Int → im_S → Prop} (h0 : 0 ≤ s.1 582 1) (h4 : s.1 582 1 ≤ 400) (hQ : ∀ z s', tyq x (s.1 582 1) (s.2 583) (s'.1 582 1) (s'.2 583) → Q z s') : C_type10 x s Q := by
  intro v ev
  have bad : (x < 32 ∨ 126 < x ∨ 400 ≤ s.1 582 1) → Q (-1) s := fun w => hQ _ _ (Or.inl ⟨rfl, fun _ _ => rfl, w⟩)
  refine ⟨fun z => bad (by have := (sgn_z ev).1 z; omega), fun z => ⟨fun c _ s1 e1 s2 e2 => hQ _ _ (Or.inr ?_), fun c => bad (by unfold cgf at c; omega)⟩⟩
  have x1 := (sgn_z ev).2 z
  have c' : s.1 582 1 < 400 := by unfold cgf at c; omega
  exact ⟨x1.1, x1.2, c', ap1_w rfl h0 c' (by omega) e1 e2⟩
/-- four of the class -/
theorem four_tC {x : Int} {s : im_S} {Q : Int → im_S → Prop} (h0 : 0 ≤ s.1 0 0) (h4 : s.1 0 0 ≤ 400) (hQ : ∀ z s', fsq x (s.1 0 0) (s.2 3) (s'.1 0 0) (s'.2 3) → Q z s') : C_four9 x s Q := by
  refine ⟨fun a => ∃ t : Nat, t ≤ 4 ∧ a.2.1 = 24 - 8 * (t : Int) ∧ a.2.2 = s ∧ a.1 = bsm (bB x) t ∧ ∀ i, i < t → bok (bB x i), ⟨0, by omega, rfl, rfl, rfl, fun i hi => by omega⟩, ?_⟩
  rintro ⟨u, v, s1⟩ ⟨t, t4, ev, es, eu, ok⟩
  dsimp only at ev es eu ⊢
  subst es; subst ev; subst eu
  have sb := bsm_b (B := bB x) t
  refine ⟨fun c => ?_, fun c => ?_⟩
  · have et : t = 4 := by omega
    subst et
    have all := ball_i.2 ok
    rw [bsm_4] at sb ⊢
    show ((w32 (s1.1 0 0 + _)) ≤ 400 → _) ∧ (¬ (w32 (s1.1 0 0 + _)) ≤ 400 → _)
    rw [w32_id (by omega) (by omega)]
    refine ⟨fun le => ?_, fun gt => hQ _ _ (Or.inl ⟨rfl, fun _ _ => rfl, Or.inr (by omega)⟩)⟩
    refine ⟨fun a => ∃ t : Nat, t ≤ 4 ∧ a.1 = 24 - 8 * (t : Int) ∧ chF (bB x) (s1.1 0 0) (s1.2 3) t (a.2.1 0 0) (a.2.2 3), ⟨0, by omega, rfl, rfl, fun _ _ => rfl⟩, ?_⟩
    rintro ⟨v, s2⟩ ⟨t, t4, ev, ch⟩
    dsimp only at ev ch ⊢
    subst ev
    refine ⟨fun c => ?_, fun c => ?_⟩
    · have et : t = 4 := by omega
      subst et
      exact hQ _ _ (Or.inr ⟨all, le, ch⟩)
    · have t3 : t < 4 := by omega
      have en := chF_n ch
      have l4 := bsm_le (B := bB x) (t := t + 1) (u := 4) (by omega)
      have st : bsm (bB x) (t + 1) = bsm (bB x) t + bn (bB x t) := rfl
      have sb := bsm_b (B := bB x) t
      rw [bsm_4] at l4
      rw [byC x t3]
      have nx : w32 (24 - 8 * (t : Int) + -8) = 24 - 8 * ((t + 1 : Nat) : Int) := by rw [w32_id (by omega) (by omega)]; omega
      refine ⟨fun z => ⟨t + 1, by omega, nx, _, _, ch, ap1_z z⟩, fun z => ?_⟩
      have b1 : bn (bB x t) = 1 := by unfold bn; rw [if_neg z]
      refine ⟨fun c4 => ?_, fun c4 _ s3 e3 s4 e4 => ?_⟩
      · have c4' : 400 ≤ s2.1 0 0 := c4
        exfalso; omega
      · have bk := ok t t3
        have bx : 0 ≤ bB x t ∧ bB x t ≤ 126 := by unfold bok at bk; omega
        rw [c16_id bx.1 bx.2] at e3
        exact ⟨t + 1, by omega, nx, _, _, ch, ap1_w rfl (by omega) (by omega) z e3 e4⟩
  · have t3 : t < 4 := by omega
    have nx : w32 (24 - 8 * (t : Int) + -8) = 24 - 8 * ((t + 1 : Nat) : Int) := by rw [w32_id (by omega) (by omega)]; omega
    rw [byC x t3]
    have go : bok (bB x t) → C_four9_33 (fun a => ∃ t : Nat, t ≤ 4 ∧ a.2.1 = 24 - 8 * (t : Int) ∧ a.2.2 = s1 ∧ a.1 = bsm (bB x) t ∧ ∀ i, i < t → bok (bB x i)) x (bsm (bB x) t) (24 - 8 * (t : Int)) (bB x t) s1 Q := fun bk v ev => by
      have b1 := bn_b (bB x t)
      have ev' : v = bn (bB x t) := ev
      refine ⟨t + 1, by omega, nx, rfl, ?_, fun i hi => ?_⟩
      · show w32 _ = bsm (bB x) t + bn (bB x t)
        rw [ev', w32_id (by omega) (by omega)]
      · by_cases e : i = t
        · rw [e]; exact bk
        · exact ok i (by omega)
    refine ⟨fun z => go (Or.inl z), fun z v ev => ⟨fun w => go (Or.inr ((sgn_z ev).2 w)), fun w => hQ _ _ (Or.inl ⟨rfl, fun _ _ => rfl, Or.inl (fun al => ?_)⟩)⟩⟩
    rcases ball_i.1 al t t3 with q | q
    · exact z q
    · exact (sgn_z ev).1 w q
/-- four of the reference -/
theorem four_tR {x : Int} {s : im_S} {Q : Int → im_S → Prop} (hx : iR x) (h0 : 0 ≤ s.1 582 1) (h4 : s.1 582 1 ≤ 400) (hQ : ∀ z s', fsq x (s.1 582 1) (s.2 583) (s'.1 582 1) (s'.2 583) → Q z s') : C_four10 x s Q := by
  refine ⟨fun a => ∃ t : Nat, t ≤ 4 ∧ a.2.1 = 24 - 8 * (t : Int) ∧ a.2.2 = s ∧ a.1 = bsm (bB x) t ∧ ∀ i, i < t → bok (bB x i), ⟨0, by omega, rfl, rfl, rfl, fun i hi => by omega⟩, ?_⟩
  rintro ⟨u, v, s1⟩ ⟨t, t4, ev, es, eu, ok⟩
  dsimp only at ev es eu ⊢
  subst es; subst ev; subst eu
  have sb := bsm_b (B := bB x) t
  refine ⟨fun c => ?_, fun c => ?_⟩
  · have et : t = 4 := by omega
    subst et
    have all := ball_i.2 ok
    rw [bsm_4] at sb ⊢
    show ((w32 (s1.1 582 1 + _)) ≤ 400 → _) ∧ (¬ (w32 (s1.1 582 1 + _)) ≤ 400 → _)
    rw [w32_id (by omega) (by omega)]
    refine ⟨fun le => ?_, fun gt => hQ _ _ (Or.inl ⟨rfl, fun _ _ => rfl, Or.inr (by omega)⟩)⟩
    refine ⟨fun a => ∃ t : Nat, t ≤ 4 ∧ a.1 = 24 - 8 * (t : Int) ∧ chF (bB x) (s1.1 582 1) (s1.2 583) t (a.2.1 582 1) (a.2.2 583), ⟨0, by omega, rfl, rfl, fun _ _ => rfl⟩, ?_⟩
    rintro ⟨v, s2⟩ ⟨t, t4, ev, ch⟩
    dsimp only at ev ch ⊢
    subst ev
    refine ⟨fun c => ?_, fun c => ?_⟩
    · have et : t = 4 := by omega
      subst et
      exact hQ _ _ (Or.inr ⟨all, le, ch⟩)
    · have t3 : t < 4 := by omega
      have en := chF_n ch
      have l4 := bsm_le (B := bB x) (t := t + 1) (u := 4) (by omega)
      have st : bsm (bB x) (t + 1) = bsm (bB x) t + bn (bB x t) := rfl
      have sb := bsm_b (B := bB x) t
      rw [bsm_4] at l4
      rw [byR hx t3]
      have nx : w32 (24 - 8 * (t : Int) + -8) = 24 - 8 * ((t + 1 : Nat) : Int) := by rw [w32_id (by omega) (by omega)]; omega
      refine ⟨fun z => ⟨t + 1, by omega, nx, _, _, ch, ap1_z z⟩, fun z _ s3 e3 s4 e4 => ?_⟩
      have b1 : bn (bB x t) = 1 := by unfold bn; rw [if_neg z]
      exact ⟨t + 1, by omega, nx, _, _, ch, ap1_w rfl (by omega) (by omega) z e3 e4⟩
  · have t3 : t < 4 := by omega
    have nx : w32 (24 - 8 * (t : Int) + -8) = 24 - 8 * ((t + 1 : Nat) : Int) := by rw [w32_id (by omega) (by omega)]; omega
    rw [byR hx t3]
    have go : bok (bB x t) → C_four10_33 (fun a => ∃ t : Nat, t ≤ 4 ∧ a.2.1 = 24 - 8 * (t : Int) ∧ a.2.2 = s1 ∧ a.1 = bsm (bB x) t ∧ ∀ i, i < t → bok (bB x i)) x (bsm (bB x) t) (24 - 8 * (t : Int)) (bB x t) s1 Q := fun bk v ev => by
      have b1 := bn_b (bB x t)
      have ev' : v = bn (bB x t) := by
        rw [ev]; unfold bn
        by_cases c : bB x t = 0
        · rw [if_neg (fun w => w c), if_pos c]
        · rw [if_pos c, if_neg c]
      refine ⟨t + 1, by omega, nx, rfl, ?_, fun i hi => ?_⟩
      · show w32 _ = bsm (bB x) t + bn (bB x t)
        rw [ev', w32_id (by omega) (by omega)]
      · by_cases e : i = t
        · rw [e]; exact bk
        · exact ok i (by omega)
    refine ⟨fun z => go (Or.inl z), fun z v ev => ⟨fun w => go (Or.inr ((sgn_z ev).2 w)), fun w => hQ _ _ (Or.inl ⟨rfl, fun _ _ => rfl, Or.inl (fun al => ?_)⟩)⟩⟩
    rcases ball_i.1 al t t3 with q | q
    · exact z q
    · exact (sgn_z ev).1 w q
