/-! sign, holds, count, judge ON BOTH SIDES -/
def snQ (kn : Prop) (c a : Int) (N m : Nat) (tb : Nat → Nat → Int) (v : Int) : Prop := ((¬ kn ∨ c < 0 ∨ 2 * (N : Int) < c ∨ a < 0 ∨ (m : Int) ≤ a) ∧ v = -2) ∨ ((kn ∧ 0 ≤ c ∧ c ≤ 2 * (N : Int) ∧ 0 ≤ a ∧ a < (m : Int)) ∧ v = tb c.toNat a.toNat)
theorem snQ_u {kn kn' : Prop} {c a : Int} {N m : Nat} {tb tb' : Nat → Nat → Int} {v v' : Int} (hk : kn ↔ kn') (ht : kn → ∀ c a, c ≤ 2 * N → a < m → tb c a = tb' c a) (h : snQ kn c a N m tb v) (h' : snQ kn' c a N m tb' v') : v = v' := by
  rcases h with ⟨x, y⟩ | ⟨x, y⟩ <;> rcases h' with ⟨x', y'⟩ | ⟨x', y'⟩
  · omega
  · exfalso; rcases x with q | q | q | q | q <;> first | exact q (hk.2 x'.1) | omega
  · exfalso; rcases x' with q | q | q | q | q <;> first | exact q (hk.1 x.1) | omega
  · rw [y, y']; exact ht x.1 _ _ (by omega) (by omega)
theorem sign9_v {l1 l2 : Int} {s : im_S} {N m : Nat} {tb : Nat → Nat → Int} {Q : Int → im_S → Prop} (h : s.1 0 3 ≠ 0 → N ≤ 80 ∧ m ≤ 10 ∧ s.1 1 4 = (N : Int) ∧ s.1 2 11 = (m : Int) ∧ ∀ c a, c ≤ 2 * N → a < m → s.2 578 (10 * c + a) = tb c a) (hQ : ∀ v : Int, snQ (s.1 0 3 ≠ 0) l1 l2 N m tb v → Q v s) : C_sign9 l1 l2 s Q := by
  have bad : (s.1 0 3 = 0 ∨ l1 < 0 ∨ 2 * s.1 1 4 < l1) → snQ (s.1 0 3 ≠ 0) l1 l2 N m tb (-2) := fun w => by
    refine Or.inl ⟨?_, rfl⟩
    rcases w with w | w | w
    · exact Or.inl (fun q => q w)
    · exact Or.inr (Or.inl w)
    · by_cases c5 : s.1 0 3 = 0
      · exact Or.inl (fun q => q c5)
      · have := (h c5).2.2.1
        exact Or.inr (Or.inr (Or.inl (by omega)))
  refine isCell9_v (fun c => by obtain ⟨a, b, c, d, e⟩ := h c; omega) (fun c3 c0 c4 => ⟨fun c => absurd c (by decide), fun _ => isAtom9_v (fun _ a0 a1 => ⟨fun _ => ?_, fun c => absurd c (by decide)⟩) (fun w => ⟨fun c => absurd rfl c, fun _ => hQ _ (Or.inl ⟨?_, rfl⟩)⟩)⟩) (fun w => ⟨fun _ => hQ _ (bad w), fun c => absurd rfl c⟩)
  · obtain ⟨h1, h2, h3, h4, h5⟩ := h c3
    refine hQ _ (Or.inr ⟨⟨c3, c0, by omega, a0, by omega⟩, ?_⟩)
    rw [w32_id (x := l1 * 10) (by omega) (by omega), w32_id (by omega) (by omega)]
    show s.2 578 (l1 * 10 + l2).toNat = _
    rw [show (l1 * 10 + l2).toNat = 10 * l1.toNat + l2.toNat by omega]
    exact h5 _ _ (by omega) (by omega)
  · rcases w with w | w | w
    · exact Or.inl (fun q => q w)
    · exact Or.inr (Or.inr (Or.inr (Or.inl w)))
    · have := (h c3).2.2.2.1
      exact Or.inr (Or.inr (Or.inr (Or.inr (by omega))))
theorem sign_rv {l1 l2 : Int} {s : im_S} {N m : Nat} {tb : Nat → Nat → Int} {Q : Int → im_S → Prop} (h : wgf s 5 ≠ 0 → N ≤ 80 ∧ m ≤ 10 ∧ wgf s 41 = (N : Int) ∧ wgf s 6 = (m : Int) ∧ ∀ c a : Nat, c ≤ 2 * N → a < m → wga s 617 ((10 * c + a : Nat) : Int) = tb c a) (hQ : ∀ v : Int, snQ (wgf s 5 ≠ 0) l1 l2 N m tb v → Q v s) : W_sign l1 l2 s Q := by
  unfold W_sign W_sign_32
  refine isCell_v (fun c => by obtain ⟨a, b, c, d, e⟩ := h c; omega) (fun c3 c0 c4 => ⟨fun c => absurd c (by decide), fun _ => isAtom_w9 (fun _ a0 a1 => ?_) (fun w => ?_)⟩) (fun w => ⟨fun _ => hQ _ (Or.inl ⟨?_, rfl⟩), fun c => absurd rfl c⟩)
  · obtain ⟨h1, h2, h3, h4, h5⟩ := h c3
    refine ⟨fun _ => by unfold iR; omega, fun _ => by omega, fun v hv => hQ v (Or.inr ⟨⟨c3, c0, by omega, a0, by omega⟩, ?_⟩)⟩
    rw [hv, if_neg (by decide), show 10 * l1 + l2 = ((10 * l1.toNat + l2.toNat : Nat) : Int) by omega]
    exact h5 _ _ (by omega) (by omega)
  · obtain ⟨h1, h2, h3, h4, h5⟩ := h c3
    refine ⟨fun c => absurd rfl c, fun c => absurd rfl c, fun v hv => hQ v (Or.inl ⟨?_, by rw [hv, if_pos rfl]⟩)⟩
    rcases w with w | w | w
    · exact Or.inl (fun q => q w)
    · exact Or.inr (Or.inr (Or.inr (Or.inl w)))
    · exact Or.inr (Or.inr (Or.inr (Or.inr (by omega))))
  · rcases w with w | w | w
    · exact Or.inl (fun q => q w)
    · exact Or.inr (Or.inl w)
    · by_cases c5 : wgf s 5 = 0
      · exact Or.inl (fun q => q c5)
      · have := (h c5).2.2.1
        exact Or.inr (Or.inr (Or.inl (by omega)))
/-- holds -/
def hoQ (kn : Prop) (c : Int) (N : Nat) (hd : Nat → Int) (v : Int) : Prop := ((¬ kn ∨ c < 0 ∨ 2 * (N : Int) < c) ∧ v = -1) ∨ ((kn ∧ 0 ≤ c ∧ c ≤ 2 * (N : Int)) ∧ v = if hd c.toNat = 0 then 0 else 1)
theorem hoQ_u {kn kn' : Prop} {c : Int} {N : Nat} {hd hd' : Nat → Int} {v v' : Int} (hk : kn ↔ kn') (ht : kn → ∀ c, c ≤ 2 * N → hd c = hd' c) (h : hoQ kn c N hd v) (h' : hoQ kn' c N hd' v') : v = v' := by
  rcases h with ⟨x, y⟩ | ⟨x, y⟩ <;> rcases h' with ⟨x', y'⟩ | ⟨x', y'⟩
  · omega
  · exfalso; rcases x with q | q | q <;> first | exact q (hk.2 x'.1) | omega
  · exfalso; rcases x' with q | q | q <;> first | exact q (hk.1 x.1) | omega
  · rw [y, y', ht x.1 _ (by omega)]
theorem holds9_v {l1 : Int} {s : im_S} {N : Nat} {hd : Nat → Int} {Q : Int → im_S → Prop} (h : s.1 0 3 ≠ 0 → N ≤ 80 ∧ s.1 1 4 = (N : Int) ∧ ∀ c, c ≤ 2 * N → s.2 579 c = hd c) (hQ : ∀ v : Int, hoQ (s.1 0 3 ≠ 0) l1 N hd v → Q v s) : C_holds9 l1 s Q := by
  refine isCell9_v (fun c => by obtain ⟨a, b, d⟩ := h c; omega) (fun c3 c0 c4 => ⟨fun _ v hv => hQ v (Or.inr ⟨⟨c3, c0, by have := (h c3).2.1; omega⟩, ?_⟩), fun c => absurd c (by decide)⟩) (fun w => ⟨fun c => absurd rfl c, fun _ => hQ _ (Or.inl ⟨?_, rfl⟩)⟩)
  · obtain ⟨h1, h2, h3⟩ := h c3
    have e : cga s 579 l1 = hd l1.toNat := h3 _ (by omega)
    rw [hv, e]
  · rcases w with w | w | w
    · exact Or.inl (fun q => q w)
    · exact Or.inr (Or.inl w)
    · by_cases c5 : s.1 0 3 = 0
      · exact Or.inl (fun q => q c5)
      · have := (h c5).2.1
        exact Or.inr (Or.inr (by omega))
theorem holds_rv {l1 : Int} {s : im_S} {N : Nat} {hd : Nat → Int} {Q : Int → im_S → Prop} (h : wgf s 5 ≠ 0 → N ≤ 80 ∧ wgf s 41 = (N : Int) ∧ ∀ c : Nat, c ≤ 2 * N → wga s 618 (c : Int) = hd c) (hQ : ∀ v : Int, hoQ (wgf s 5 ≠ 0) l1 N hd v → Q v s) : W_holds l1 s Q := by
  unfold W_holds
  refine isCell_v (fun c => by obtain ⟨a, b, d⟩ := h c; omega) (fun c3 c0 c4 => ?_) (fun w => ?_)
  · obtain ⟨h1, h2, h3⟩ := h c3
    refine ⟨fun _ => by omega, fun v hv => hQ v (Or.inr ⟨⟨c3, c0, by omega⟩, ?_⟩)⟩
    have e := h3 l1.toNat (by omega)
    rw [show ((l1.toNat : Nat) : Int) = l1 by omega] at e
    rw [hv, if_neg (by decide), e]
  · refine ⟨fun c => absurd rfl c, fun v hv => hQ v (Or.inl ⟨?_, by rw [hv, if_pos rfl]⟩)⟩
    rcases w with w | w | w
    · exact Or.inl (fun q => q w)
    · exact Or.inr (Or.inl w)
    · by_cases c5 : wgf s 5 = 0
      · exact Or.inl (fun q => q c5)
      · have := (h c5).2.1
        exact Or.inr (Or.inr (by omega))
/-- the sums -/
theorem hvv_s (hd : Nat → Int) (n : Nat) : hvv hd (n + 1) = if hd n = 0 then hvv hd n else ((hvv hd n).1 + 1, if ¬ ((hvv hd n).1 = 0) then (hvv hd n).2.1 else (n : Int), (n : Int), (hvv hd n).2.2.2 + (if ¬ ((hvv hd n).2.2.1 = (n : Int) - 1) then 1 else (if ¬ ((hvv hd n).1 = 0) then 0 else 1))) := rfl
theorem hvv_i (hd : Nat → Int) : ∀ n : Nat, ((hvv hd n).1 = 0 ∧ (hvv hd n).2.1 = -2 ∧ (hvv hd n).2.2.1 = -2) ∨ (0 < (hvv hd n).1 ∧ 0 ≤ (hvv hd n).2.1 ∧ (hvv hd n).2.1 < (n : Int) ∧ 0 ≤ (hvv hd n).2.2.1 ∧ (hvv hd n).2.2.1 < (n : Int))
  | 0 => Or.inl ⟨rfl, rfl, rfl⟩
  | n + 1 => by
    have ih := hvv_i hd n
    rw [hvv_s]
    by_cases q : hd n = 0
    · rw [if_pos q]; omega
    · rw [if_neg q]
      dsimp only
      by_cases z : (hvv hd n).1 = 0
      · rw [if_neg (fun y => y z)]; omega
      · rw [if_pos z]; omega
theorem hvv_c {hd hd' : Nat → Int} : ∀ {n : Nat}, (∀ c, c < n → hd c = hd' c) → hvv hd n = hvv hd' n
  | 0, _ => rfl
  | n + 1, h => by
    have ih := hvv_c (hd := hd) (hd' := hd') (n := n) (fun c hc => h c (by omega))
    rw [hvv_s, hvv_s, ih, h n (by omega)]
/-- the first is 0 exactly if the cell 0 holds -/
theorem hvv_f (hd : Nat → Int) : ∀ n : Nat, (hvv hd (n + 1)).2.1 = 0 ↔ hd 0 ≠ 0
  | 0 => by
    rw [hvv_s]
    by_cases q : hd 0 = 0
    · rw [if_pos q]
      show (-2 : Int) = 0 ↔ _
      exact ⟨fun z => absurd z (by decide), fun z => absurd q z⟩
    · rw [if_neg q]
      exact ⟨fun _ => q, fun _ => rfl⟩
  | n + 1 => by
    have ih := hvv_f hd n
    have iv := hvv_i hd (n + 1)
    rw [hvv_s hd (n + 1)]
    by_cases q : hd (n + 1) = 0
    · rw [if_pos q]; exact ih
    · rw [if_neg q]
      dsimp only
      by_cases z : (hvv hd (n + 1)).1 = 0
      · rw [if_neg (fun y => y z)]
        have : (hvv hd (n + 1)).2.1 = -2 := by omega
        rw [this] at ih
        exact ⟨fun y => by omega, fun y => absurd (ih.2 y) (by decide)⟩
      · rw [if_pos z]; exact ih
theorem hvv_l (hd : Nat → Int) (n : Nat) : (hvv hd (n + 1)).2.2.1 = (n : Int) ↔ hd n ≠ 0 := by
  have iv := hvv_i hd n
  rw [hvv_s]
  by_cases q : hd n = 0
  · rw [if_pos q]
    exact ⟨fun z => by omega, fun z => absurd q z⟩
  · rw [if_neg q]
    exact ⟨fun _ => q, fun _ => rfl⟩
/-- judge -/
def jdV (w : Int) (N : Nat) (h : Int × Int × Int × Int) : Int := if w = 0 then (if h.1 ≤ 0 then 0 else 1) else if w = 1 then (if h.1 = 2 * (N : Int) + 1 then 1 else 0) else if w = 2 then h.2.1 else if w = 3 then h.2.2.1 else if w = 4 then h.2.2.2 else if w = 5 then (if h.2.1 < 0 then 0 else if h.2.1 % 2 = 1 then 1 else 0) else if w = 6 then (if h.2.2.1 < 0 then 0 else if h.2.2.1 % 2 = 1 then 1 else 0) else if w = 7 then (if h.2.1 = 0 then 1 else 0) else (if h.2.2.1 = 2 * (N : Int) then 1 else 0)
def jdQ (kn : Prop) (w : Int) (N : Nat) (h : Int × Int × Int × Int) (v : Int) : Prop := ((¬ kn ∨ w < 0 ∨ 8 < w) ∧ v = -1) ∨ ((kn ∧ 0 ≤ w ∧ w ≤ 8) ∧ v = jdV w N h)
theorem jdQ_u {kn kn' : Prop} {w : Int} {N : Nat} {h h' : Int × Int × Int × Int} {v v' : Int} (hk : kn ↔ kn') (ht : kn → h = h') (g : jdQ kn w N h v) (g' : jdQ kn' w N h' v') : v = v' := by
  rcases g with ⟨x, y⟩ | ⟨x, y⟩ <;> rcases g' with ⟨x', y'⟩ | ⟨x', y'⟩
  · omega
  · exfalso; rcases x with q | q | q <;> first | exact q (hk.2 x'.1) | omega
  · exfalso; rcases x' with q | q | q <;> first | exact q (hk.1 x.1) | omega
  · rw [y, y', ht x.1]
theorem judge9_v {w : Int} {s : im_S} {N : Nat} {hd : Nat → Int} {Q : Int → im_S → Prop} (h : s.1 0 3 ≠ 0 → N ≤ 80 ∧ s.1 1 4 = (N : Int) ∧ s.1 1 7 = (hvv hd (2 * N + 1)).1 ∧ s.1 1 8 = (hvv hd (2 * N + 1)).2.1 ∧ s.1 1 9 = (hvv hd (2 * N + 1)).2.2.1 ∧ s.1 1 10 = (hvv hd (2 * N + 1)).2.2.2) (hQ : ∀ v : Int, jdQ (s.1 0 3 ≠ 0) w N (hvv hd (2 * N + 1)) v → Q v s) : C_judge9 w s Q := by
  refine ⟨fun c3 => ?_, fun c3 => hQ _ (Or.inl ⟨Or.inl (fun q => q c3), rfl⟩)⟩
  obtain ⟨h1, h2, h3, h4, h5, h6⟩ := h c3
  have iv := hvv_i hd (2 * N + 1)
  have go : 0 ≤ w → w ≤ 8 → ∀ v : Int, v = jdV w N (hvv hd (2 * N + 1)) → Q v s := fun w0 w8 v hv => hQ v (Or.inr ⟨⟨c3, w0, w8⟩, hv⟩)
  have rm : ∀ x : Int, 0 ≤ x → x ≤ 1000 → remI x 2 = x % 2 := fun x x0 x1 => by rw [remI_eq (by omega) (by omega) (by omega) (by omega), Int.tmod_eq_emod_of_nonneg x0]
  unfold cgf
  rw [h2, h3, h4, h5, h6, w32_id (x := 2 * (N : Int)) (by omega) (by omega), w32_id (x := 2 * (N : Int) + 1) (by omega) (by omega)]
  generalize hvv hd (2 * N + 1) = g at *
  obtain ⟨g1, g2, g3, g4⟩ := g
  dsimp only at iv go ⊢
  refine ⟨fun e v hv => ?_, fun e v hv => ?_, fun e => ?_, fun e => ?_, fun e => ?_, fun e v hv => ?_, fun e v hv => ?_, fun e v hv => ?_, fun e v hv => ?_, fun e => hQ _ (Or.inl ⟨Or.inr e, rfl⟩)⟩ <;> refine go (by omega) (by omega) _ ?_ <;> subst e <;> unfold jdV
  · exact hv
  · rw [if_neg (by decide), if_pos rfl, hv]
    by_cases q : g1 = 2 * (N : Int) + 1
    · rw [if_neg (fun z => z q), if_pos q]
    · rw [if_pos q, if_neg q]
  · rfl
  · rfl
  · rfl
  · rw [if_neg (by decide), if_neg (by decide), if_neg (by decide), if_neg (by decide), if_neg (by decide), if_pos rfl, hv]
    dsimp only
    by_cases q : g2 < 0
    · rw [if_pos q, if_pos q]
    · rw [if_neg q, if_neg q, rm g2 (by omega) (by omega)]
      by_cases r : g2 % 2 = 1
      · rw [if_neg (fun z => z r), if_pos r]
      · rw [if_pos r, if_neg r]
  · rw [if_neg (by decide), if_neg (by decide), if_neg (by decide), if_neg (by decide), if_neg (by decide), if_neg (by decide), if_pos rfl, hv]
    dsimp only
    by_cases q : g3 < 0
    · rw [if_pos q, if_pos q]
    · rw [if_neg q, if_neg q, rm g3 (by omega) (by omega)]
      by_cases r : g3 % 2 = 1
      · rw [if_neg (fun z => z r), if_pos r]
      · rw [if_pos r, if_neg r]
  · rw [if_neg (by decide), if_neg (by decide), if_neg (by decide), if_neg (by decide), if_neg (by decide), if_neg (by decide), if_neg (by decide), if_pos rfl, hv]
    dsimp only
    by_cases q : g2 = 0
    · rw [if_neg (fun z => z q), if_pos q]
    · rw [if_pos q, if_neg q]
  · rw [if_neg (by decide), if_neg (by decide), if_neg (by decide), if_neg (by decide), if_neg (by decide), if_neg (by decide), if_neg (by decide), if_neg (by decide), hv]
    dsimp only
    by_cases q : g3 = 2 * (N : Int)
    · rw [if_neg (fun z => z q), if_pos q]
    · rw [if_pos q, if_neg q]
theorem holdingMany_v {s : im_S} {N : Nat} {hd : Nat → Int} {Q : Int → im_S → Prop} (hN : N ≤ 80) (h41 : wgf s 41 = (N : Int)) (hh : ∀ c : Nat, c ≤ 2 * N → wga s 618 (c : Int) = hd c) (hQ : Q (hvv hd (2 * N + 1)).1 s) : W_holdingMany s Q := by
  unfold W_holdingMany
  refine ⟨fun a => a.2.2 = s ∧ ∃ c : Nat, c ≤ 2 * N + 1 ∧ a.2.1 = (c : Int) ∧ a.1 = (hvv hd c).1, fun a => (2 * N + 1 - a.2.1).toNat, ⟨rfl, 0, by omega, rfl, rfl⟩, ?_⟩
  rintro ⟨x, y, s2⟩ ⟨e, c, c1, c2, c3⟩
  dsimp only at e c2 c3 ⊢
  subst e
  subst c2
  have bb := hvv_b hd c
  unfold W_holdingMany_4
  refine cells_ok (by omega) ⟨fun q => ?_, fun q => ⟨by omega, fun v hv => ?_⟩⟩
  · have : c = 2 * N + 1 := by omega
    subst this
    rw [c3]; exact hQ
  · rw [hh c (by omega)] at hv
    have st := hvv_s hd c
    have e1 : (hvv hd (c + 1)).1 = x + v := by
      rw [st, hv, c3]
      by_cases z : hd c = 0
      · rw [if_pos z, if_pos z]; omega
      · rw [if_neg z, if_neg z]
    refine ⟨by unfold iR; split at hv <;> omega, by unfold iR; omega, ⟨rfl, c + 1, by omega, by (try dsimp only); omega, e1.symm⟩, by (try dsimp only); omega⟩
theorem judge_rv {w : Int} {s : im_S} {N : Nat} {hd : Nat → Int} {Q : Int → im_S → Prop} (h : wgf s 5 ≠ 0 → N ≤ 80 ∧ wgf s 41 = (N : Int) ∧ ∀ c : Nat, c ≤ 2 * N → wga s 618 (c : Int) = hd c) (hQ : ∀ v : Int, jdQ (wgf s 5 ≠ 0) w N (hvv hd (2 * N + 1)) v → Q v s) : W_judge w s Q := by
  unfold W_judge W_judge_17
  refine ⟨fun c5 => hQ _ (Or.inl ⟨Or.inl (fun q => q c5), rfl⟩), fun c5 => ⟨fun w0 => hQ _ (Or.inl ⟨Or.inr (Or.inl w0), rfl⟩), fun w0 => ⟨fun w8 => ?_, fun w8 => hQ _ (Or.inl ⟨Or.inr (Or.inr (by omega)), rfl⟩)⟩⟩⟩
  obtain ⟨N80, h41, hh⟩ := h c5
  have go : ∀ v : Int, v = jdV w N (hvv hd (2 * N + 1)) → Q v s := fun v hv => hQ v (Or.inr ⟨⟨c5, by omega, w8⟩, hv⟩)
  refine ⟨fun a => a.2.2.2.2 = s ∧ ∃ c : Nat, c ≤ 2 * N + 1 ∧ a.2.2.2.1 = (c : Int) ∧ a.1 = (hvv hd c).2.1 ∧ a.2.1 = (hvv hd c).2.2.1 ∧ a.2.2.1 = (hvv hd c).2.2.2, fun a => (2 * N + 1 - a.2.2.2.1).toNat, ⟨rfl, 0, by omega, rfl, rfl, rfl, rfl⟩, ?_⟩
  rintro ⟨l2, l3, l4, l5, s2⟩ ⟨e, c, c1, c2, c3, c4, c6⟩
  dsimp only at e c2 c3 c4 c6 ⊢
  subst e
  subst c2
  have bb := hvv_b hd c
  have iv := hvv_i hd c
  unfold W_judge_31
  refine cells_ok (by omega) ⟨fun q => holdingMany_v N80 h41 hh ?_, fun q => ?_⟩
  · have ec : c = 2 * N + 1 := by omega
    subst ec
    have f0 := hvv_f hd (2 * N)
    have fl := hvv_l hd (2 * N)
    have h0 := hh 0 (by omega)
    have hl := hh (2 * N) (by omega)
    have tm : ∀ x : Int, 0 ≤ x → x.tmod 2 = x % 2 := fun x x0 => Int.tmod_eq_emod_of_nonneg x0
    rw [← c3] at f0
    rw [← c4] at fl
    generalize hvv hd (2 * N + 1) = g at *
    obtain ⟨g1, g2, g3, g4⟩ := g
    dsimp only at c3 c4 c6 iv go ⊢
    subst c3; subst c4; subst c6
    refine ⟨fun e v hv => go v ?_, fun e => cells_ok (by omega) (fun v hv => go v ?_), fun e => go _ ?_, fun e => go _ ?_, fun e => go _ ?_, fun e v hv => go v ?_, fun e v hv => go v ?_, fun e => ⟨by decide, fun v hv => go v ?_⟩, fun e => cells_ok (by omega) ⟨by omega, fun v hv => go v ?_⟩⟩
    · subst e; exact hv
    · subst e
      unfold jdV
      rw [if_neg (by decide), if_pos rfl, hv, h41]
      by_cases q : g1 = 2 * (N : Int) + 1
      · rw [if_neg (fun z => z q), if_pos q]
      · rw [if_pos q, if_neg q]
    · subst e; rfl
    · subst e; rfl
    · subst e; rfl
    · subst e
      unfold jdV
      rw [if_neg (by decide), if_neg (by decide), if_neg (by decide), if_neg (by decide), if_neg (by decide), if_pos rfl, hv]
      dsimp only
      by_cases q : g1 ≤ 0
      · rw [if_pos q, if_pos (show l2 < 0 by omega)]
      · rw [if_neg q, if_neg (show ¬ l2 < 0 by omega), tm l2 (by omega)]
        by_cases r : l2 % 2 = 1
        · rw [if_neg (fun z => z r), if_pos r]
        · rw [if_pos r, if_neg r]
    · subst e
      unfold jdV
      rw [if_neg (by decide), if_neg (by decide), if_neg (by decide), if_neg (by decide), if_neg (by decide), if_neg (by decide), if_pos rfl, hv]
      dsimp only
      by_cases q : g1 ≤ 0
      · rw [if_pos q, if_pos (show l3 < 0 by omega)]
      · rw [if_neg q, if_neg (show ¬ l3 < 0 by omega), tm l3 (by omega)]
        by_cases r : l3 % 2 = 1
        · rw [if_neg (fun z => z r), if_pos r]
        · rw [if_pos r, if_neg r]
    · subst e
      unfold jdV
      rw [if_neg (by decide), if_neg (by decide), if_neg (by decide), if_neg (by decide), if_neg (by decide), if_neg (by decide), if_neg (by decide), if_pos rfl, hv]
      have h0' : wga s2 618 0 = hd 0 := h0
      rw [h0']
      dsimp only
      by_cases q : hd 0 = 0
      · rw [if_pos q, if_neg (fun z => f0.1 z q)]
      · rw [if_neg q, if_pos (f0.2 q)]
    · have ew : w = 8 := by omega
      subst ew
      unfold jdV
      rw [if_neg (by decide), if_neg (by decide), if_neg (by decide), if_neg (by decide), if_neg (by decide), if_neg (by decide), if_neg (by decide), if_neg (by decide), hv]
      rw [h41, show 2 * (N : Int) + 1 - 1 = ((2 * N : Nat) : Int) by omega, hl]
      dsimp only
      by_cases q : hd (2 * N) = 0
      · rw [if_pos q, if_neg (fun z => fl.1 (by omega) q)]
      · rw [if_neg q, if_pos (by have := fl.2 q; omega)]
  · have cN : c ≤ 2 * N := by omega
    rw [hh c cN]
    have st := hvv_s hd c
    generalize hvv hd c = g at *
    obtain ⟨g1, g2, g3, g4⟩ := g
    dsimp only at c3 c4 c6 iv bb st
    subst c3; subst c4; subst c6
    refine ⟨by omega, fun _ _ => by unfold iR; omega, fun _ _ _ => by unfold iR; omega, fun _ _ _ _ => by unfold iR; omega, fun _ _ _ _ => by unfold iR; omega, fun _ _ => by unfold iR; omega, fun _ _ _ => by unfold iR; omega, fun _ _ _ _ => by unfold iR; omega, fun _ _ _ _ => by unfold iR; omega, fun v1 h1 v2 h2 v3 h3 => ⟨by unfold iR; omega, ⟨rfl, c + 1, by omega, by (try dsimp only); omega, ?_, ?_, ?_⟩, by (try dsimp only); omega⟩⟩
    · try dsimp only
      rw [st, h1]
      by_cases z : hd c = 0
      · rw [if_pos z, if_pos z]
      · rw [if_neg z, if_neg z]
        dsimp only
        by_cases y : g1 = 0
        · rw [if_neg (show ¬ ¬ l2 = -2 by omega), if_neg (fun q => q y)]
        · rw [if_pos (show ¬ l2 = -2 by omega), if_pos y]
    · try dsimp only
      rw [st, h2]
      by_cases z : hd c = 0
      · rw [if_pos z, if_pos z]
      · rw [if_neg z, if_neg z]
    · try dsimp only
      rw [st, h3]
      by_cases z : hd c = 0
      · rw [if_pos z, if_pos z]
      · rw [if_neg z, if_neg z]
        dsimp only
        by_cases y : g1 = 0
        · rw [if_neg (show ¬ ¬ l2 = -2 by omega)]
          by_cases u : l3 = (c : Int) - 1
          · rw [if_neg (fun q => q u), if_neg (fun q => q rfl), if_neg (fun q => q u), if_neg (fun q => q y)]
          · rw [if_pos u, if_pos u]
        · rw [if_pos (show ¬ l2 = -2 by omega)]
          by_cases u : l3 = (c : Int) - 1
          · rw [if_neg (fun q => q u), if_pos (show ¬ l2 = (c : Int) by omega), if_neg (fun q => q u), if_pos y]
          · rw [if_pos u, if_pos u]
/-- count -/
def ctV (kn : Prop) [Decidable kn] (w fo pl si m N ho : Int) : Int := if w = 0 then fo else if w = 1 then pl else if w = 2 then si else if kn then (if w = 3 then m else if w = 4 then N else if w = 5 then ho else -1) else -1
theorem count9_v {w : Int} {s : im_S} {Q : Int → im_S → Prop} (hQ : Q (ctV (s.1 0 3 ≠ 0) w (s.1 0 1) (s.1 0 2) (s.1 0 0) (s.1 2 11) (s.1 1 4) (s.1 1 7)) s) : C_count9 w s Q := by
  unfold ctV at hQ
  refine ⟨fun a => ⟨fun b => ⟨fun c => ⟨fun d => ⟨fun e => ⟨fun f v hv => ?_, fun f => ?_⟩, fun e => ?_⟩, fun d => ?_⟩, fun c => ?_⟩, fun b => ?_⟩, fun a => ?_⟩
  · rw [if_neg a, if_neg b, if_neg c, if_pos (show s.1 0 3 ≠ 0 from d), if_neg e, if_neg f] at hQ
    rw [hv]
    by_cases g : w = 5
    · rw [if_neg (fun z => z g)]; rw [if_pos g] at hQ; exact hQ
    · rw [if_pos g]; rw [if_neg g] at hQ; exact hQ
  · rw [if_neg a, if_neg b, if_neg c, if_pos (show s.1 0 3 ≠ 0 from d), if_neg e, if_pos f] at hQ; exact hQ
  · rw [if_neg a, if_neg b, if_neg c, if_pos (show s.1 0 3 ≠ 0 from d), if_pos e] at hQ; exact hQ
  · rw [if_neg a, if_neg b, if_neg c, if_neg (fun z => z d)] at hQ; exact hQ
  · rw [if_neg a, if_neg b, if_pos c] at hQ; exact hQ
  · rw [if_neg a, if_pos b] at hQ; exact hQ
  · rw [if_pos a] at hQ; exact hQ
theorem count_rv {w : Int} {s : im_S} {N : Nat} {hd : Nat → Int} {Q : Int → im_S → Prop} (h : wgf s 5 ≠ 0 → N ≤ 80 ∧ wgf s 41 = (N : Int) ∧ ∀ c : Nat, c ≤ 2 * N → wga s 618 (c : Int) = hd c) (hQ : Q (ctV (wgf s 5 ≠ 0) w (wgf s 2) (wgf s 3) (wgf s 1) (wgf s 6) (wgf s 41) (hvv hd (2 * N + 1)).1) s) : W_count w s Q := by
  unfold ctV at hQ
  have bad : (w < 0 ∨ 5 < w ∨ (2 < w ∧ wgf s 5 = 0)) → W_count_21 s Q := fun z => by
    rw [if_neg (by omega), if_neg (by omega), if_neg (by omega)] at hQ
    by_cases c5 : wgf s 5 = 0
    · rw [if_neg (fun y => y c5)] at hQ; exact hQ
    · rw [if_pos c5, if_neg (by omega), if_neg (by omega), if_neg (by omega)] at hQ; exact hQ
  have go : (w ≤ 2 ∨ wgf s 5 ≠ 0) → 0 ≤ w → w ≤ 5 → W_count_23 w s Q := fun z w0 w5 => by
    unfold W_count_23 W_count_86
    refine ⟨fun a => ⟨fun b => ⟨fun c => ⟨fun d => ⟨fun e => ?_, fun e => ?_⟩, fun d => ?_⟩, fun c => ?_⟩, fun b => ?_⟩, fun a => ?_⟩
    · have c5 : wgf s 5 ≠ 0 := z.resolve_left (by omega)
      obtain ⟨h1, h2, h3⟩ := h c5
      rw [if_neg a, if_neg b, if_neg c, if_pos c5, if_neg d, if_neg e, if_pos (by omega)] at hQ
      exact holdingMany_v h1 h2 h3 hQ
    · have c5 : wgf s 5 ≠ 0 := z.resolve_left (by omega)
      rw [if_neg a, if_neg b, if_neg c, if_pos c5, if_neg d, if_pos e] at hQ; exact hQ
    · have c5 : wgf s 5 ≠ 0 := z.resolve_left (by omega)
      rw [if_neg a, if_neg b, if_neg c, if_pos c5, if_pos d] at hQ; exact hQ
    · rw [if_neg a, if_neg b, if_pos c] at hQ; exact hQ
    · rw [if_neg a, if_pos b] at hQ; exact hQ
    · rw [if_pos a] at hQ; exact hQ
  exact ⟨fun a => bad (Or.inl a), fun a => ⟨fun b => bad (Or.inr (Or.inl b)), fun b => ⟨fun c => go (Or.inl c) (by omega) (by omega), fun c => ⟨fun d => go (Or.inr d) (by omega) (by omega), fun d => bad (Or.inr (Or.inr ⟨by omega, d⟩))⟩⟩⟩⟩
