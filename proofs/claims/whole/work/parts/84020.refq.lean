/-! THE REFERENCE'S QUESTIONS BY CUTS -/
def clq (es : Nat → Rat → Int) (n : Nat) (x : Rat) (v : Int) : Prop := (∃ k : Nat, k < n ∧ es k x = 0 ∧ v = 2 * (k : Int) + 1) ∨ ∃ k : Nat, k ≤ n ∧ v = 2 * (k : Int) ∧ (∀ j, j < k → es j x = -1) ∧ ∀ j, k ≤ j → j < n → es j x = 1
theorem clq_u {es : Nat → Rat → Int} {n : Nat} {x : Rat} {v w : Int} (hc : ∀ k, k < n → cut (es k)) (hr : ∀ k k', k < k' → k' < n → lft9 (es k) (es k')) (h : clq es n x v) (h' : clq es n x w) : v = w := by
  have ne : ∀ k k', k < k' → k' < n → es k x = 0 → es k' x = 0 → False := fun k k' kk hk a b => by
    have := lft9_r (hc k (by omega)) (hc k' hk) (hr k k' kk hk) (y := x) (by omega)
    omega
  have mix : ∀ k k', k < n → k' ≤ n → es k x = 0 → (∀ j, j < k' → es j x = -1) → (∀ j, k' ≤ j → j < n → es j x = 1) → False := fun k k' hk _ a b c => by
    by_cases q : k < k'
    · have := b k q; omega
    · have := c k (by omega) hk; omega
  rcases h with ⟨k, k1, k2, k3⟩ | ⟨k, k1, k2, k3, k4⟩ <;> rcases h' with ⟨k', a1, a2, a3⟩ | ⟨k', a1, a2, a3, a4⟩
  · rcases Nat.lt_trichotomy k k' with q | q | q
    · exact absurd (ne k k' q a1 k2 a2) id
    · omega
    · exact absurd (ne k' k q k1 a2 k2) id
  · exact absurd (mix k k' k1 a1 k2 a3 a4) id
  · exact absurd (mix k' k a1 k1 a2 k3 k4) id
  · rcases Nat.lt_trichotomy k k' with q | q | q
    · have x1 := a3 k q
      have x2 := k4 k (Nat.le_refl _) (by omega)
      omega
    · omega
    · have x1 := k3 k' q
      have x2 := a4 k' (Nat.le_refl _) (by omega)
      omega
theorem isAtom_w9 {i : Int} {s : im_S} {Q : Int → im_S → Prop} (h1 : wgf s 5 ≠ 0 → 0 ≤ i → i < wgf s 6 → Q 1 s) (h0 : wgf s 5 = 0 ∨ i < 0 ∨ wgf s 6 ≤ i → Q 0 s) : W_isAtom i s Q := by
  unfold W_isAtom
  intro v hv
  rw [hv]
  split
  · exact h0 (Or.inl (by assumption))
  · split
    · exact h0 (Or.inr (Or.inl (by assumption)))
    · split
      · exact h0 (Or.inr (Or.inr (by assumption)))
      · exact h1 (by assumption) (by omega) (by omega)
theorem isRoot_v {i : Int} {s : im_S} {Q : Int → im_S → Prop} (h1 : wgf s 5 ≠ 0 → 0 ≤ i → i < wgf s 41 → Q 1 s) (h0 : wgf s 5 = 0 ∨ i < 0 ∨ wgf s 41 ≤ i → Q 0 s) : W_isRoot i s Q := by
  unfold W_isRoot
  intro v hv
  rw [hv]
  split
  · exact h0 (Or.inl (by assumption))
  · split
    · exact h0 (Or.inr (Or.inl (by assumption)))
    · split
      · exact h0 (Or.inr (Or.inr (by assumption)))
      · exact h1 (by assumption) (by omega) (by omega)
theorem isNumber_w9 {p q : Int} {s : im_S} {Q : Int → im_S → Prop} (h1 : -1000000000 ≤ p → p ≤ 1000000000 → 1 ≤ q → q ≤ 1000000000 → Q 1 s) (h0 : q < 1 ∨ 1000000000 < q ∨ p < -1000000000 ∨ 1000000000 < p → Q 0 s) : W_isNumber p q s Q := by
  unfold W_isNumber
  intro v hv
  rw [hv]
  split
  · exact h0 (Or.inl (by assumption))
  · split
    · exact h0 (Or.inr (Or.inl (by assumption)))
    · split
      · exact h0 (Or.inr (Or.inr (Or.inl (by assumption))))
      · split
        · exact h0 (Or.inr (Or.inr (Or.inr (by assumption))))
        · exact h1 (by omega) (by omega) (by omega) (by omega)
theorem isCell_v {i : Int} {s : im_S} {Q : Int → im_S → Prop} (h41 : wgf s 5 ≠ 0 → 0 ≤ wgf s 41 ∧ wgf s 41 ≤ 80) (h1 : wgf s 5 ≠ 0 → 0 ≤ i → i ≤ 2 * wgf s 41 → Q 1 s) (h0 : wgf s 5 = 0 ∨ i < 0 ∨ 2 * wgf s 41 < i → Q 0 s) : W_isCell i s Q := by
  unfold W_isCell W_isCell_23 W_isCell_24
  refine ⟨fun c => h0 (Or.inl c), fun c => ⟨fun c2 => h0 (Or.inr (Or.inl c2)), fun c2 => ?_⟩⟩
  refine cells_ok (h41 c) (fun v hv => ?_)
  rw [hv]
  split
  · exact h0 (Or.inr (Or.inr (by omega)))
  · exact h1 c (by omega) (by omega)
/-- the k-th root from below, and whose it is -/
theorem RV_at {s : im_S} {A : Nat → List Int} {m n nb k : Nat} {b : Nat → List Int} {T : Nat → Nat → Nat} {f : Nat → Int} {F : Nat → List Int} {lo hi : Nat → Rat} {ds : Nat → Rat → Int} {od : Nat → Nat} (h : RVl s A m n nb b T f F lo hi ds od) (hk : k < n) : od k < n ∧ wga s 614 (k : Int) = (od k : Int) ∧ cut (ds (od k)) ∧ rkc s (od k) (F (od k)) (lo (od k)) (hi (od k)) (ds (od k)) ∧ ∃ j : Nat, j < nb ∧ wga s 607 ((od k : Nat) : Int) = (j : Int) ∧ rtc (b j) (ds (od k)) := by
  obtain ⟨o1, o2⟩ := h.2.2.2.2.2.1 k hk
  obtain ⟨a1, a2, a3⟩ := h.2.2.2.2.1.1 (od k) o1
  exact ⟨o1, o2, a1, a2, a3⟩
theorem RV_rise {s : im_S} {A : Nat → List Int} {m n nb : Nat} {b : Nat → List Int} {T : Nat → Nat → Nat} {f : Nat → Int} {F : Nat → List Int} {lo hi : Nat → Rat} {ds : Nat → Rat → Int} {od : Nat → Nat} (h : RVl s A m n nb b T f F lo hi ds od) : (∀ k, k < n → cut (ds (od k))) ∧ ∀ k k', k < k' → k' < n → lft9 (ds (od k)) (ds (od k')) := ⟨fun k hk => (RV_at h hk).2.2.1, h.2.2.2.2.2.2.1⟩
def caQ (kn : Prop) (p q : Int) (es : Nat → Rat → Int) (n : Nat) (v : Int) : Prop := ((¬ kn ∨ q < 1 ∨ 1000000000 < q ∨ p < -1000000000 ∨ 1000000000 < p) ∧ v = -1) ∨ ((kn ∧ 1 ≤ q ∧ q ≤ 1000000000 ∧ -1000000000 ≤ p ∧ p ≤ 1000000000) ∧ clq es n ((p : Rat) / (q : Rat)) v)
theorem cellOf_rv {p q : Int} {s : im_S} {A : Nat → List Int} {m n nb : Nat} {b : Nat → List Int} {T : Nat → Nat → Nat} {f : Nat → Int} {F : Nat → List Int} {lo hi : Nat → Rat} {ds : Nat → Rat → Int} {od : Nat → Nat} {Q : Int → im_S → Prop} (h : wgf s 5 ≠ 0 → RVl s A m n nb b T f F lo hi ds od) (hQ : ∀ (v : Int) (s' : im_S), rfq s s' → (wgf s 5 ≠ 0 → RVl s' A m n nb b T f F lo hi ds od) → caQ (wgf s 5 ≠ 0) p q (fun k => ds (od k)) n v → Q v s') : W_cellOf p q s Q := by
  unfold W_cellOf W_cellOf_15
  refine isNumber_w9 (fun p1 p2 q1 q2 => ⟨fun c => absurd c (by decide), fun _ => ⟨fun c5 => ?_, fun c5 => hQ _ s rfq_rfl h (Or.inl ⟨Or.inl (fun w => w c5), rfl⟩)⟩⟩) (fun w => ⟨fun _ => hQ _ s rfq_rfl h (Or.inl ⟨Or.inr w, rfl⟩), fun c => absurd rfl c⟩)
  have h := h c5
  have n80 := h.1.1.1
  obtain ⟨hc, hr⟩ := RV_rise h
  refine ⟨fun a => rfq s a.2.2 ∧ RVl a.2.2 A m n nb b T f F lo hi ds od ∧ ∃ k : Nat, k ≤ n ∧ a.1 = (k : Int) ∧ (∀ j, j < k → ds (od j) ((p : Rat) / (q : Rat)) = -1) ∧ (a.2.1 = -1 ∨ (k < n ∧ 0 ≤ a.2.1 ∧ a.2.1 = ds (od k) ((p : Rat) / (q : Rat)))), fun a => (n - a.1).toNat + (if a.2.1 < 0 then 1 else 0), ⟨rfq_rfl, h, 0, by omega, rfl, fun j hj => by omega, Or.inl rfl⟩, ?_⟩
  rintro ⟨l3, l4, s2⟩ ⟨i1, i2, k, i3, i4, i5, i6⟩
  dsimp only at i1 i2 i4 i6 ⊢
  subst i4
  have e41 := i2.1.2.1
  have e24 := i2.1.2.2.2.2.1
  have fin : ((n : Int) ≤ (k : Int) ∨ 0 ≤ l4) → W_cellOf_67 (k : Int) l4 s2 Q := fun z => by
    unfold W_cellOf_67
    refine ⟨fun _ _ => by unfold iR; omega, fun _ _ => by unfold iR; omega, fun _ _ => by unfold iR; omega, fun _ => by unfold iR; omega, fun v hv => hQ v s2 i1 (fun _ => i2) (Or.inr ⟨⟨c5, q1, q2, p1, p2⟩, ?_⟩)⟩
    rw [e41] at hv
    by_cases e : k = n
    · rw [if_neg (fun w => w (by rw [e]))] at hv
      exact Or.inr ⟨n, Nat.le_refl _, by omega, fun j hj => i5 j (by omega), fun j j1 j2 => by omega⟩
    · rw [if_pos (fun w => e (by omega))] at hv
      obtain ⟨b1, b2, b3⟩ := i6.resolve_left (fun w => by omega)
      by_cases z0 : l4 = 0
      · rw [if_neg (fun w => w z0)] at hv
        exact Or.inl ⟨k, b1, by show ds (od k) _ = 0; rw [← b3]; exact z0, hv⟩
      · rw [if_pos z0] at hv
        refine Or.inr ⟨k, by omega, hv, i5, fun j j1 j2 => ?_⟩
        have ek : ds (od k) ((p : Rat) / (q : Rat)) = 1 := by
          rcases (hc k b1).1 ((p : Rat) / (q : Rat)) with w | w | w <;> omega
        by_cases ej : j = k
        · rw [ej]; exact ek
        · exact lft9_l (hc k b1) (hc j j2) (hr k j (by omega) j2) (by omega)
  unfold W_cellOf_22
  rw [e41]
  refine ⟨fun c => fin (Or.inl c), fun c => ⟨fun c' => fin (Or.inr c'), fun c' => ⟨by omega, ?_⟩⟩⟩
  obtain ⟨o1, o2, a1, a2, _⟩ := RV_at i2 (k := k) (by omega)
  rw [o2]
  refine against_v i2.1.1 o1 a1 a2 (by omega) (by omega) (by omega) (by omega) (fun s3 a b w hw => ?_)
  have c3 := a1.1 ((p : Rat) / (q : Rat))
  refine ⟨by unfold iR; split at hw <;> omega, ⟨rfq_tr i1 a, RVl_rfq i2 a b, ?_⟩, ?_⟩
  · by_cases z : 0 ≤ ds (od k) ((p : Rat) / (q : Rat))
    · rw [if_pos z] at hw
      exact ⟨k, i3, by omega, i5, Or.inr ⟨by omega, z, rfl⟩⟩
    · rw [if_neg z] at hw
      refine ⟨k + 1, by omega, by omega, fun j hj => ?_, Or.inl (by (try dsimp only); rcases c3 with w | w | w <;> omega)⟩
      by_cases ej : j = k
      · rw [ej]; omega
      · exact i5 j (by omega)
  · try dsimp only
    rw [if_pos (show l4 < 0 by omega)]
    split at hw
    · rw [if_neg (by omega)]; omega
    · rw [if_pos (by omega)]; omega
/-- root -/
def roQ (kn : Prop) (k e : Int) (es : Nat → Rat → Int) (n : Nat) (v : Int) : Prop := ((¬ kn ∨ k < 0 ∨ (n : Int) ≤ k ∨ e < 0 ∨ 8 < e) ∧ v = -9000000000000000000) ∨ ((kn ∧ 0 ≤ k ∧ k < (n : Int) ∧ 0 ≤ e ∧ e ≤ 8) ∧ flc (es k.toNat) (10 ^ e.toNat) v)
theorem root_rv {k e : Int} {s : im_S} {A : Nat → List Int} {m n nb : Nat} {b : Nat → List Int} {T : Nat → Nat → Nat} {f : Nat → Int} {F : Nat → List Int} {lo hi : Nat → Rat} {ds : Nat → Rat → Int} {od : Nat → Nat} {Q : Int → im_S → Prop} (h : wgf s 5 ≠ 0 → RVl s A m n nb b T f F lo hi ds od) (hQ : ∀ (v : Int) (s' : im_S), rfq s s' → (wgf s 5 ≠ 0 → RVl s' A m n nb b T f F lo hi ds od) → roQ (wgf s 5 ≠ 0) k e (fun k => ds (od k)) n v → Q v s') : W_root k e s Q := by
  unfold W_root W_root_18
  refine isRoot_v (fun c5 k0 k41 => ⟨fun c => absurd c (by decide), fun _ => ⟨fun n0 => hQ _ s rfq_rfl h (Or.inl ⟨Or.inr (Or.inr (Or.inr (Or.inl n0))), rfl⟩), fun n0 => ⟨fun n8 => ?_, fun n8 => hQ _ s rfq_rfl h (Or.inl ⟨Or.inr (Or.inr (Or.inr (Or.inr (by omega)))), rfl⟩)⟩⟩⟩) (fun w => ⟨fun _ => hQ _ s rfq_rfl h (Or.inl ⟨?_, rfl⟩), fun c => absurd rfl c⟩)
  · have hh := h c5
    have e41 := hh.1.2.1
    have n80 := hh.1.1.1
    have e24 := hh.1.2.2.2.2.1
    refine ⟨fun a => a.2.2 = s ∧ (0 ≤ a.2.1 ∧ a.2.1 ≤ e) ∧ ∃ j : Nat, a.2.1 = j ∧ a.1 = 10 ^ j, fun a => (8 - a.2.1).toNat, ⟨rfl, ⟨Int.le_refl 0, by show (0 : Int) ≤ e; omega⟩, 0, rfl, rfl⟩, ?_⟩
    rintro ⟨l3, l5, s2⟩ ⟨i1, i2, j, j1, j2⟩
    dsimp only at i1 i2 j1 j2 ⊢
    subst i1
    have p1 : (1 : Int) ≤ 10 ^ j ∧ (10 : Int) ^ j ≤ 100000000 := by
      have a : 10 ^ j ≤ 10 ^ 8 := Nat.pow_le_pow_right (by decide) (by omega)
      have b : 1 ≤ 10 ^ j := Nat.one_le_pow _ _ (by decide)
      have e : ((10 ^ j : Nat) : Int) = (10 : Int) ^ j := by rw [Int.natCast_pow]; rfl
      omega
    unfold W_root_27
    refine ⟨fun c => ⟨by omega, ?_⟩, fun c => ⟨by unfold lR; omega, by unfold iR; omega, ⟨rfl, by (try dsimp only); omega, j + 1, by (try dsimp only); omega, by (try dsimp only); rw [j2, Int.pow_succ]⟩, by (try dsimp only); omega⟩⟩
    obtain ⟨kn, rfl⟩ : ∃ kn : Nat, k = kn := ⟨k.toNat, by omega⟩
    obtain ⟨o1, o2, a1, a2, _⟩ := RV_at hh (k := kn) (by omega)
    rw [o2, j2]
    refine floorOf_v hh.1.1 o1 a1 a2 (by omega) (by omega) (by omega) (fun v s' _ g1 g2 g3 => hQ v s' g1 (fun _ => RVl_rfq hh g1 g2) (Or.inr ⟨⟨c5, k0, by omega, by omega, by omega⟩, ?_⟩))
    rw [show e.toNat = j by omega, Int.toNat_natCast]
    exact g3
  · rcases w with w | w | w
    · exact Or.inl (fun q => q w)
    · exact Or.inr (Or.inl w)
    · by_cases c5 : wgf s 5 = 0
      · exact Or.inl (fun q => q c5)
      · have e41 := (h c5).1.2.1
        exact Or.inr (Or.inr (Or.inl (by omega)))
/-- exact -/
def exQ (kn : Prop) (k w : Int) (es : Nat → Rat → Int) (n : Nat) (v : Int) : Prop := ((¬ kn ∨ k < 0 ∨ (n : Int) ≤ k ∨ w < 0 ∨ 1 < w) ∧ v = -9000000000000000000) ∨ ((kn ∧ 0 ≤ k ∧ k < (n : Int) ∧ 0 ≤ w ∧ w ≤ 1) ∧ ((∃ x : Rat, es k.toNat x = 0 ∧ v = if w = 0 then x.num else (x.den : Int)) ∨ ((∀ x : Rat, es k.toNat x ≠ 0) ∧ v = -9000000000000000002)))
theorem exQ_u {kn : Prop} {k w : Int} {es : Nat → Rat → Int} {n : Nat} {v v' : Int} (hc : ∀ k, k < n → cut (es k)) (h : exQ kn k w es n v) (h' : exQ kn k w es n v') : v = v' := by
  rcases h with ⟨a, b⟩ | ⟨a, b⟩ <;> rcases h' with ⟨a', b'⟩ | ⟨a', b'⟩
  · omega
  · exfalso; rcases a with q | q | q | q | q <;> first | exact q a'.1 | omega
  · exfalso; rcases a' with q | q | q | q | q <;> first | exact q a.1 | omega
  · rcases b with ⟨x, x1, x2⟩ | ⟨x1, x2⟩ <;> rcases b' with ⟨y, y1, y2⟩ | ⟨y1, y2⟩
    · have c := hc k.toNat (by omega)
      have e : x = y := by
        have z := cut_q c x1 y
        rw [y1] at z
        unfold qct at z
        rcases rsg_c (x - y) with ⟨p, q⟩ | ⟨p, q⟩ | ⟨p, q⟩
        · grind
        · omega
        · omega
      rw [x2, y2, e]
    · exact absurd x1 (y1 x)
    · exact absurd y1 (x1 y)
    · omega
theorem exact_rv {k w : Int} {s : im_S} {A : Nat → List Int} {m n nb : Nat} {b : Nat → List Int} {T : Nat → Nat → Nat} {f : Nat → Int} {F : Nat → List Int} {lo hi : Nat → Rat} {ds : Nat → Rat → Int} {od : Nat → Nat} {Q : Int → im_S → Prop} (h : wgf s 5 ≠ 0 → RVl s A m n nb b T f F lo hi ds od) (hQ : ∀ v : Int, exQ (wgf s 5 ≠ 0) k w (fun k => ds (od k)) n v → Q v s) : W_exact k w s Q := by
  unfold W_exact W_exact_17
  refine isRoot_v (fun c5 k0 k41 => ⟨fun c => absurd c (by decide), fun _ => ⟨fun w0 => hQ _ (Or.inl ⟨Or.inr (Or.inr (Or.inr (Or.inl w0))), rfl⟩), fun w0 => ⟨fun w1 => ?_, fun w1 => hQ _ (Or.inl ⟨Or.inr (Or.inr (Or.inr (Or.inr (by omega)))), rfl⟩)⟩⟩⟩) (fun w => ⟨fun _ => hQ _ (Or.inl ⟨?_, rfl⟩), fun c => absurd rfl c⟩)
  · have hh := h c5
    have e41 := hh.1.2.1
    have n80 := hh.1.1.1
    obtain ⟨kn, rfl⟩ : ∃ kn : Nat, k = kn := ⟨k.toNat, by omega⟩
    obtain ⟨o1, o2, a1, a2, _⟩ := RV_at hh (k := kn) (by omega)
    rw [o2]
    refine ⟨by omega, by omega, fun v hv => hQ v (Or.inr ⟨⟨c5, k0, by omega, by omega, w1⟩, ?_⟩)⟩
    try dsimp only
    rw [Int.toNat_natCast]
    rcases a2 with ⟨x, x1, x2, x3⟩ | ⟨z, z1, _⟩
    · have dp := x.den_pos
      rw [if_pos (by omega)] at hv
      refine Or.inl ⟨x, by rw [x3]; unfold qct; rw [show x - x = 0 by grind]; decide, ?_⟩
      rw [hv, x1, x2]
      by_cases q : w = 0
      · rw [if_neg (fun z => z q), if_pos q]
      · rw [if_pos q, if_neg q]
    · rw [if_neg (fun q => q z)] at hv
      exact Or.inr ⟨z1, hv⟩
  · rcases w with w | w | w
    · exact Or.inl (fun q => q w)
    · exact Or.inr (Or.inl w)
    · by_cases c5 : wgf s 5 = 0
      · exact Or.inl (fun q => q c5)
      · have e41 := (h c5).1.2.1
        exact Or.inr (Or.inr (Or.inl (by omega)))
/-- how often the k-th root counts for the atom i -/
theorem timesAt_rv {k i : Int} {s : im_S} {A : Nat → List Int} {m n nb : Nat} {b : Nat → List Int} {T : Nat → Nat → Nat} {f : Nat → Int} {F : Nat → List Int} {lo hi : Nat → Rat} {ds : Nat → Rat → Int} {od : Nat → Nat} {Q : Int → im_S → Prop} (h : RVl s A m n nb b T f F lo hi ds od) (hk : 0 ≤ k ∧ k < (n : Int)) (hi' : 0 ≤ i ∧ i < 10) (hQ : ∀ j : Nat, j < nb → wga s 607 ((od k.toNat : Nat) : Int) = (j : Int) → rtc (b j) (ds (od k.toNat)) → Q (T j i.toNat : Int) s) : W_timesAt k i s Q := by
  obtain ⟨kn, rfl⟩ : ∃ kn : Nat, k = kn := ⟨k.toNat, by omega⟩
  obtain ⟨ii, rfl⟩ : ∃ ii : Nat, i = ii := ⟨i.toNat, by omega⟩
  have n80 := h.1.1.1
  have nb80 := h.1.2.2.2.1
  obtain ⟨o1, o2, a1, a2, j, j1, j2, j3⟩ := RV_at h (k := kn) (by omega)
  rw [Int.toNat_natCast, Int.toNat_natCast] at hQ
  unfold W_timesAt
  rw [o2, j2]
  refine ⟨by omega, by omega, by unfold iR; omega, by omega, ?_⟩
  have e := h.2.2.2.1 j ii j1 (by omega)
  rw [show 10 * (j : Int) + (ii : Int) = ((10 * j + ii : Nat) : Int) by omega, e]
  exact hQ j j1 j2 j3
