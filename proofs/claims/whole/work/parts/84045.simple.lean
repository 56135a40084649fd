/-! SIMPLE FRACTIONS: what is asked, and the reference -/
/-- x lies in the cell 2 k -/
def inC (es : Nat → Rat → Int) (N k : Nat) (x : Rat) : Prop := (k = 0 ∨ es (k - 1) x = -1) ∧ (k = N ∨ es k x = 1)
def smp (es : Nat → Rat → Int) (N k : Nat) (a d : Int) : Prop := (d = -3 ∧ ∀ p q : Int, 1 ≤ q → q ≤ 2000 → ¬ inC es N k ((p : Rat) / (q : Rat))) ∨ ((1 ≤ d ∧ d ≤ 2000) ∧ inC es N k ((a : Rat) / (d : Rat)) ∧ (∀ p q : Int, 1 ≤ q → q < d → ¬ inC es N k ((p : Rat) / (q : Rat))) ∧ ∀ p : Int, inC es N k ((p : Rat) / (d : Rat)) → a.natAbs ≤ p.natAbs ∧ (p.natAbs = a.natAbs → p ≤ a))
theorem smp_u {es : Nat → Rat → Int} {N k : Nat} {a d a' d' : Int} (h : smp es N k a d) (h' : smp es N k a' d') : d = d' ∧ (0 ≤ d → a = a') := by
  rcases h with ⟨x, y⟩ | ⟨x, y, z, w⟩ <;> rcases h' with ⟨x', y'⟩ | ⟨x', y', z', w'⟩
  · exact ⟨by omega, fun _ => by omega⟩
  · exact absurd y' (y a' d' x'.1 x'.2)
  · exact absurd y (y' a d x.1 x.2)
  · have e : d = d' := by
      rcases Int.lt_trichotomy d d' with q | q | q
      · exact absurd y (z' a d x.1 q)
      · exact q
      · exact absurd y' (z a' d' x'.1 q)
    subst e
    refine ⟨rfl, fun _ => ?_⟩
    have u := w a' y'
    have v := w' a y
    omega
def siQ (kn : Prop) (c w : Int) (es : Nat → Rat → Int) (N : Nat) (v : Int) : Prop := ((¬ kn ∨ c < 0 ∨ 2 * (N : Int) < c ∨ w < 0 ∨ 1 < w) ∧ v = -9000000000000000001) ∨ ((kn ∧ 0 ≤ c ∧ c ≤ 2 * (N : Int) ∧ 0 ≤ w ∧ w ≤ 1) ∧ ((c % 2 = 0 ∧ ∃ a d, smp es N (c / 2).toNat a d ∧ v = if d < 0 then -9000000000000000003 else if w = 0 then a else d) ∨ (c % 2 = 1 ∧ ((∃ x : Rat, es (c / 2).toNat x = 0 ∧ v = if (x.den : Int) ≤ 2000 then (if w = 0 then x.num else (x.den : Int)) else -9000000000000000003) ∨ ((∀ x : Rat, es (c / 2).toNat x ≠ 0) ∧ v = -9000000000000000002)))))
theorem siQ_u {kn : Prop} {c w : Int} {es : Nat → Rat → Int} {N : Nat} {v v' : Int} (hc : ∀ k, k < N → cut (es k)) (h : siQ kn c w es N v) (h' : siQ kn c w es N v') : v = v' := by
  rcases h with ⟨a, b⟩ | ⟨a, b⟩ <;> rcases h' with ⟨a', b'⟩ | ⟨a', b'⟩
  · omega
  · exfalso; rcases a with q | q | q | q | q <;> first | exact q a'.1 | omega
  · exfalso; rcases a' with q | q | q | q | q <;> first | exact q a.1 | omega
  · rcases b with ⟨p, x, d, s1, e1⟩ | ⟨p, b⟩ <;> rcases b' with ⟨p', x', d', s1', e1'⟩ | ⟨p', b'⟩
    · obtain ⟨u1, u2⟩ := smp_u s1 s1'
      subst u1
      rw [e1, e1']
      by_cases q : d < 0
      · rw [if_pos q, if_pos q]
      · rw [if_neg q, if_neg q, u2 (by omega)]
    · omega
    · omega
    · rcases b with ⟨x, x1, x2⟩ | ⟨x1, x2⟩ <;> rcases b' with ⟨y, y1, y2⟩ | ⟨y1, y2⟩
      · have cc := hc (c / 2).toNat (by omega)
        have e : x = y := by
          have z := cut_q cc x1 y
          rw [y1] at z
          unfold qct at z
          rcases rsg_c (x - y) with ⟨p, q⟩ | ⟨p, q⟩ | ⟨p, q⟩
          · grind
          · omega
          · omega
        rw [x2, y2, e]
      · exact absurd x1 (y1 x)
      · exact absurd y1 (x1 y)
      · omega
/-- the greatest whole number below so times the number -/
def mbc (c : Rat → Int) (so v : Int) : Prop := c ((v : Rat) / (so : Rat)) = 1 ∧ c (((v + 1 : Int) : Rat) / (so : Rat)) ≠ 1
theorem div_le9 {p q so : Int} (hs : 0 < so) (h : p ≤ q) : (p : Rat) / (so : Rat) ≤ (q : Rat) / (so : Rat) := by
  have s0 : (0 : Rat) < (so : Rat) := Rat.intCast_pos.2 hs
  refine le_of_q s0 ?_
  rw [Rat.div_mul_cancel (by grind), Rat.div_mul_cancel (by grind)]
  exact Rat.intCast_le_intCast.2 h
theorem fl_in {c : Rat → Int} {so v p : Int} (hc : cut c) (hs : 0 < so) (h : flc c so v) : c ((p : Rat) / (so : Rat)) = -1 ↔ v + 1 ≤ p := by
  constructor
  · intro z
    refine Classical.byContradiction fun n => h.1 (cut_ge1 hc z (div_le9 hs (by omega)))
  · intro z
    exact cut_ge1 hc h.2 (div_le9 hs z)
theorem mb_in {c : Rat → Int} {so v p : Int} (hc : cut c) (hs : 0 < so) (h : mbc c so v) : c ((p : Rat) / (so : Rat)) = 1 ↔ p ≤ v := by
  constructor
  · intro z
    refine Classical.byContradiction fun n => h.2 (cut_le1 hc z (div_le9 hs (by omega)))
  · intro z
    exact cut_le1 hc h.1 (div_le9 hs z)
theorem mostBelow_v {s : im_S} {n : Nat} {f : Nat → Int} {F : Nat → List Int} {lo hi : Nat → Rat} {R : Nat} {so : Int} {d : Rat → Int} {Q : Int → im_S → Prop} (hk : rkl s n f F lo hi) (hR : R < n) (hc : cut d) (hrc : rkc s R (F R) (lo R) (hi R) d) (hq : 0 < so ∧ so ≤ 1000000000) (h0 : 0 ≤ wgf s 24) (hm : wgf s 24 + 300000 ≤ 684000) (hQ : ∀ (v : Int) (s' : im_S), rfq s s' → rkl s' n f F lo hi → mbc d so v → Q v s') : W_mostBelow (R : Int) so s Q := by
  have n80 := hk.1
  unfold W_mostBelow
  refine floorOf_v hk hR hc hrc hq h0 hm (fun v s1 vb g1 k1 fl => ?_)
  have e8 : wga s1 608 (R : Int) = wga s 608 (R : Int) := rfq_row g1 _ _ (by decide) (by decide)
  have e9 : wga s1 609 (R : Int) = wga s 609 (R : Int) := rfq_row g1 _ _ (by decide) (by decide)
  rw [e8, e9]
  have kk := hk.2 R hR
  refine ⟨by omega, fun c => ?_, fun c => by omega, fun _ _ => by unfold lR; omega, fun w hw => hQ w s1 g1 k1 ?_⟩
  · rcases kk with k | k
    · have t := tmul_b k.2.2 hq
      unfold lR; omega
    · exact absurd k.1 (by omega)
  · rcases hrc with ⟨x, x1, x2, x3⟩ | ⟨z, z1, _⟩
    · have dp := x.den_pos
      rw [x1, x2] at hw
      rw [if_neg (by omega)] at hw
      have em := Int.mul_tdiv_add_tmod (x.num * so) (x.den : Int)
      by_cases t0 : (x.num * so).tmod (x.den : Int) = 0
      · rw [if_neg (fun y => y t0)] at hw
        have ft : flc d so ((x.num * so).tdiv (x.den : Int)) := by
          unfold flc
          rw [x3, ← sg_qct hq.1, ← sg_qct hq.1]
          generalize (x.num * so).tdiv (x.den : Int) = t at *
          have e1 : x.num * so - t * (x.den : Int) = 0 := by rw [Int.mul_comm t]; omega
          have e2 : x.num * so - (t + 1) * (x.den : Int) = -(x.den : Int) := by rw [Int.add_mul, Int.one_mul, Int.mul_comm t]; omega
          rw [e1, e2]
          have a := sg_c 0
          have b := sg_c (-(x.den : Int))
          omega
        have ev := flc_u hc hq.1 fl ft
        have z0 : d ((v : Rat) / (so : Rat)) = 0 := by
          rw [x3, ← sg_qct hq.1, ev]
          generalize (x.num * so).tdiv (x.den : Int) = t at *
          rw [show x.num * so - t * (x.den : Int) = 0 by rw [Int.mul_comm t]; omega]
          decide
        rw [hw]
        refine ⟨?_, by rw [show v - 1 + 1 = v by omega, z0]; decide⟩
        refine hc.2.1 _ ((v : Rat) / (so : Rat)) ?_ (by rw [z0]; decide)
        refine Rat.not_le.1 fun y => ?_
        have := (fl_in (p := v - 1) hc hq.1 fl)
        have y2 := cut_le1 hc (c := d) (u := ((v : Rat) / (so : Rat))) (v := (((v - 1 : Int) : Rat) / (so : Rat)))
        have s0 : (0 : Rat) < (so : Rat) := Rat.intCast_pos.2 hq.1
        have q1 := Rat.mul_le_mul_of_nonneg_right y (Rat.le_of_lt s0)
        rw [Rat.div_mul_cancel (by grind), Rat.div_mul_cancel (by grind)] at q1
        have := Rat.intCast_le_intCast.1 q1
        omega
      · rw [if_pos t0] at hw
        rw [hw]
        refine ⟨?_, by rw [fl.2]; decide⟩
        rcases hc.1 ((v : Rat) / (so : Rat)) with y | y | y
        · exact absurd y fl.1
        · exfalso
          rw [x3, ← sg_qct hq.1] at y
          have a := sg_c (x.num * so - v * (x.den : Int))
          have e : x.num * so = v * (x.den : Int) := by omega
          apply t0
          rw [e]
          exact Int.mul_tmod_left _ _
        · exact y
    · rw [if_pos (by omega)] at hw
      rw [hw]
      refine ⟨?_, by rw [fl.2]; decide⟩
      rcases hc.1 ((v : Rat) / (so : Rat)) with y | y | y
      · exact absurd y fl.1
      · exact absurd y (z1 _)
      · exact y
/-- the reference's turn at a denominator -/
theorem simple_183 {K123 : Int × im_S → Prop} {c w v1 v2 D l7 k0 : Int} {es : Nat → Rat → Int} {N k : Nat} {s : im_S} {Q : Int → im_S → Prop} (D0 : 1 ≤ D) (D9 : D ≤ 2000) (h1 : v1 = 0 ↔ k = 0) (h2 : v2 = 0 ↔ k = N) (hl : k ≠ 0 → ∀ p : Int, es (k - 1) ((p : Rat) / (D : Rat)) = -1 ↔ l7 ≤ p) (hh : k ≠ N → ∀ p : Int, es k ((p : Rat) / (D : Rat)) = 1 ↔ p ≤ k0) (no : ∀ p q : Int, 1 ≤ q → q < D → ¬ inC es N k ((p : Rat) / (q : Rat))) (hK : (∀ p q : Int, 1 ≤ q → q < D + 1 → ¬ inC es N k ((p : Rat) / (q : Rat))) → K123 (D + 1, s)) (hQ : ∀ a v, smp es N k a D → v = (if w = 0 then a else D) → Q v s) : W_simple_183 K123 c w v1 v2 D l7 k0 s Q := by
  have ic : ∀ p : Int, inC es N k ((p : Rat) / (D : Rat)) ↔ ((v1 = 0 ∨ l7 ≤ p) ∧ (v2 = 0 ∨ p ≤ k0)) := fun p => by
    unfold inC
    constructor
    · rintro ⟨a, b⟩
      refine ⟨?_, ?_⟩
      · by_cases q : k = 0
        · exact Or.inl (h1.2 q)
        · exact Or.inr ((hl q p).1 (a.resolve_left q))
      · by_cases q : k = N
        · exact Or.inl (h2.2 q)
        · exact Or.inr ((hh q p).1 (b.resolve_left q))
    · rintro ⟨a, b⟩
      refine ⟨?_, ?_⟩
      · by_cases q : k = 0
        · exact Or.inl q
        · exact Or.inr ((hl q p).2 (a.resolve_left (fun y => q (h1.1 y))))
      · by_cases q : k = N
        · exact Or.inl q
        · exact Or.inr ((hh q p).2 (b.resolve_left (fun y => q (h2.1 y))))
  have fin : ∀ a : Int, ((v1 = 0 ∨ l7 ≤ a) ∧ (v2 = 0 ∨ a ≤ k0)) → (∀ p : Int, ((v1 = 0 ∨ l7 ≤ p) ∧ (v2 = 0 ∨ p ≤ k0)) → a.natAbs ≤ p.natAbs ∧ (p.natAbs = a.natAbs → p ≤ a)) → smp es N k a D := fun a x y => Or.inr ⟨⟨D0, D9⟩, (ic a).2 x, no, fun p hp => y p ((ic p).1 hp)⟩
  unfold W_simple_183 W_simple_248
  intro z hz
  refine ⟨fun z0 => ?_, fun z0 u hu => ?_⟩
  · have g : ∀ a u v' : Int, u = (if v1 = 0 then k0 else (if l7 ≤ 0 then k0 else l7)) → v' = (if ¬ (w = 0) then D else u) → smp es N k u D → Q v' s := fun a u v' hu hv' hs => hQ u v' hs (by
      rw [hv']
      by_cases q : w = 0
      · rw [if_neg (fun y => y q), if_pos q]
      · rw [if_pos q, if_neg q])
    refine ⟨fun c1 u hu v' hv' => ?_, fun c1 => ⟨fun c2 u hu v' hv' => ?_, fun c2 => ⟨fun c3 => ?_, fun c3 u hu v' hv' => ?_⟩⟩⟩
    · refine g 0 u v' hu hv' ?_
      rw [if_pos c1] at hz hu
      have n2 : ¬ v2 = 0 := fun y => by rw [if_pos y] at hz; omega
      rw [if_neg n2] at hz
      have n3 : k0 < 0 := by
        refine Classical.byContradiction fun y => ?_
        rw [if_neg y] at hz; omega
      exact fin u ⟨Or.inl c1, Or.inr (by omega)⟩ (fun p hp => by
        have := hp.2.resolve_left n2
        omega)
    · refine g 0 u v' hu hv' ?_
      rw [if_neg c1] at hz hu
      have n3 : 0 < l7 := by
        refine Classical.byContradiction fun y => ?_
        rw [if_neg y, if_pos c2] at hz; omega
      rw [if_neg (by omega)] at hu
      exact fin u ⟨Or.inr (by omega), Or.inl c2⟩ (fun p hp => by
        have := hp.1.resolve_left c1
        omega)
    · refine ⟨by unfold lR; omega, hK (fun p q q1 q2 hin => ?_)⟩
      by_cases e : q = D
      · subst e
        obtain ⟨a, b⟩ := (ic p).1 hin
        have a' := a.resolve_left c1
        have b' := b.resolve_left c2
        omega
      · exact no p q q1 (by omega) hin
    · refine g 0 u v' hu hv' ?_
      rw [if_neg c1] at hz hu
      by_cases n3 : 0 < l7
      · rw [if_neg (by omega)] at hu
        exact fin u ⟨Or.inr (by omega), Or.inr (by omega)⟩ (fun p hp => by
          have := hp.1.resolve_left c1
          omega)
      · rw [if_pos (by omega)] at hu
        rw [if_neg n3, if_neg c2] at hz
        have n4 : k0 < 0 := by
          refine Classical.byContradiction fun y => ?_
          rw [if_neg y] at hz; omega
        exact fin u ⟨Or.inr (by omega), Or.inr (by omega)⟩ (fun p hp => by
          have := hp.2.resolve_left c2
          omega)
  · refine hQ 0 u (fin 0 ?_ (fun p _ => by omega)) ?_
    · by_cases c1 : v1 = 0
      · refine ⟨Or.inl c1, ?_⟩
        rw [if_pos c1] at hz
        by_cases c2 : v2 = 0
        · exact Or.inl c2
        · rw [if_neg c2] at hz
          refine Or.inr (Int.not_lt.1 fun y => ?_)
          rw [if_pos y] at hz; omega
      · rw [if_neg c1] at hz
        have n3 : ¬ 0 < l7 := fun y => by rw [if_pos y] at hz; omega
        rw [if_neg n3] at hz
        refine ⟨Or.inr (by omega), ?_⟩
        by_cases c2 : v2 = 0
        · exact Or.inl c2
        · rw [if_neg c2] at hz
          refine Or.inr (Int.not_lt.1 fun y => ?_)
          rw [if_pos y] at hz; omega
    · rw [hu]
      by_cases q : w = 0
      · rw [if_neg (fun y => y q), if_pos q]
      · rw [if_pos q, if_neg q]
theorem simple_rv {c w : Int} {s : im_S} {A : Nat → List Int} {m n nb : Nat} {b : Nat → List Int} {T : Nat → Nat → Nat} {f : Nat → Int} {F : Nat → List Int} {lo hi : Nat → Rat} {ds : Nat → Rat → Int} {od : Nat → Nat} {Q : Int → im_S → Prop} (h : wgf s 5 ≠ 0 → RVl s A m n nb b T f F lo hi ds od) (hQ : ∀ (v : Int) (s' : im_S), rfq s s' → (wgf s 5 ≠ 0 → RVl s' A m n nb b T f F lo hi ds od) → siQ (wgf s 5 ≠ 0) c w (fun k => ds (od k)) n v → Q v s') : W_simple c w s Q := by
  unfold W_simple W_simple_17
  have b41 : wgf s 5 ≠ 0 → 0 ≤ wgf s 41 ∧ wgf s 41 ≤ 80 := fun c5 => by
    have e41 := (h c5).1.2.1
    have n80 := (h c5).1.1.1
    omega
  refine isCell_v b41 (fun c5 c0 c41 => ⟨fun c => absurd c (by decide), fun _ => ⟨fun w0 => hQ _ s rfq_rfl h (Or.inl ⟨Or.inr (Or.inr (Or.inr (Or.inl w0))), rfl⟩), fun w0 => ⟨fun w1 => ⟨fun odd v1 hv1 => ?_, fun odd => ?_⟩, fun w1 => hQ _ s rfq_rfl h (Or.inl ⟨Or.inr (Or.inr (Or.inr (Or.inr (by omega)))), rfl⟩)⟩⟩⟩) (fun w => ⟨fun _ => hQ _ s rfq_rfl h (Or.inl ⟨?_, rfl⟩), fun c => absurd rfl c⟩)
  · have hh := h c5
    have n80 := hh.1.1.1
    have e41 := hh.1.2.1
    have td : c.tdiv 2 = c / 2 := Int.tdiv_eq_ediv_of_nonneg c0
    have tm : c.tmod 2 = c % 2 := Int.tmod_eq_emod_of_nonneg c0
    rw [tm] at odd
    obtain ⟨k, hk⟩ : ∃ k : Nat, c / 2 = (k : Int) := ⟨(c / 2).toNat, by omega⟩
    have kn : k ≤ n := by omega
    have ck : (c / 2).toNat = k := by omega
    obtain ⟨hc, hr⟩ := RV_rise hh
    refine cells_ok (by omega) ⟨by unfold iR; omega, fun v2 hv2 => ?_⟩
    have h1 : v1 = 0 ↔ k = 0 := by
      rw [hv1]
      by_cases q : c ≤ 0
      · rw [if_pos q]; omega
      · rw [if_neg q]; omega
    have h2 : v2 = 0 ↔ k = n := by
      rw [hv2]
      by_cases q : 2 * wgf s 41 + 1 - 1 ≤ c
      · rw [if_pos q]; omega
      · rw [if_neg q]; omega
    have good : wgf s 5 ≠ 0 ∧ 0 ≤ c ∧ c ≤ 2 * (n : Int) ∧ 0 ≤ w ∧ w ≤ 1 := ⟨c5, c0, by omega, by omega, w1⟩
    refine ⟨fun a => rfq s a.2 ∧ RVl a.2 A m n nb b T f F lo hi ds od ∧ (1 ≤ a.1 ∧ a.1 ≤ 2001) ∧ ∀ p q : Int, 1 ≤ q → q < a.1 → ¬ inC (fun k => ds (od k)) n k ((p : Rat) / (q : Rat)), fun a => (2001 - a.1).toNat, ⟨rfq_rfl, hh, ⟨Int.le_refl 1, by show (1 : Int) ≤ 2001; decide⟩, fun p q q1 q2 => by have : q < 1 := q2; omega⟩, ?_⟩
    rintro ⟨D, s2⟩ ⟨i1, i2, i3, i4⟩
    dsimp only at i1 i2 i3 i4 ⊢
    unfold W_simple_123
    refine ⟨fun c2 => hQ _ s2 i1 (fun _ => i2) (Or.inr ⟨good, Or.inl ⟨by omega, 0, -3, ?_, rfl⟩⟩), fun c2 => ?_⟩
    · rw [ck]
      exact Or.inl ⟨rfl, fun p q q1 q2 => i4 p q q1 (by omega)⟩
    · have u183 : ∀ (l7 k0 : Int) (s3 : im_S), rfq s s3 → RVl s3 A m n nb b T f F lo hi ds od → (k ≠ 0 → ∀ p : Int, ds (od (k - 1)) ((p : Rat) / (D : Rat)) = -1 ↔ l7 ≤ p) → (k ≠ n → ∀ p : Int, ds (od k) ((p : Rat) / (D : Rat)) = 1 ↔ p ≤ k0) → W_simple_183 (fun b' => (rfq s b'.2 ∧ RVl b'.2 A m n nb b T f F lo hi ds od ∧ (1 ≤ b'.1 ∧ b'.1 ≤ 2001) ∧ ∀ p q : Int, 1 ≤ q → q < b'.1 → ¬ inC (fun k => ds (od k)) n k ((p : Rat) / (q : Rat))) ∧ (2001 - b'.1).toNat < (2001 - D).toNat) c w v1 v2 D l7 k0 s3 Q := fun l7 k0 s3 g1 g2 g3 g4 => simple_183 (es := fun k => ds (od k)) (N := n) (k := k) i3.1 (by omega) h1 h2 g3 g4 i4 (fun no => ⟨⟨g1, g2, by dsimp only; omega, no⟩, by dsimp only; omega⟩) (fun a v hs hv => hQ v s3 g1 (fun _ => g2) (Or.inr ⟨good, Or.inl ⟨by omega, a, D, by rw [ck]; exact hs, by rw [if_neg (by omega)]; exact hv⟩⟩))
      have u158 : ∀ (l7 : Int) (s3 : im_S), rfq s s3 → RVl s3 A m n nb b T f F lo hi ds od → (k ≠ 0 → ∀ p : Int, ds (od (k - 1)) ((p : Rat) / (D : Rat)) = -1 ↔ l7 ≤ p) → W_simple_158 (fun b' => (rfq s b'.2 ∧ RVl b'.2 A m n nb b T f F lo hi ds od ∧ (1 ≤ b'.1 ∧ b'.1 ≤ 2001) ∧ ∀ p q : Int, 1 ≤ q → q < b'.1 → ¬ inC (fun k => ds (od k)) n k ((p : Rat) / (q : Rat))) ∧ (2001 - b'.1).toNat < (2001 - D).toNat) c w v1 v2 D l7 s3 Q := fun l7 s3 g1 g2 g3 => by
        unfold W_simple_158
        refine ⟨fun z2 => u183 l7 0 s3 g1 g2 g3 (fun q => absurd (h2.1 z2) q), fun z2 => ?_⟩
        have kn' : k < n := by
          have := fun y => z2 (h2.2 y)
          omega
        rw [td, hk]
        obtain ⟨o1, o2, a1, a2, _⟩ := RV_at g2 (k := k) kn'
        have e24 := g2.1.2.2.2.2.1
        rw [o2]
        exact ⟨by omega, mostBelow_v g2.1.1 o1 a1 a2 (by omega) (by omega) (by omega) (fun v s4 q1 q2 q3 => u183 l7 v s4 (rfq_tr g1 q1) (RVl_rfq g2 q1 q2) g3 (fun _ p => mb_in (hc k kn') (by omega) q3))⟩
      refine ⟨fun z1 => u158 0 s2 i1 i2 (fun q => absurd (h1.1 z1) q), fun z1 => ?_⟩
      have k0 : 1 ≤ k := by
        have := fun y => z1 (h1.2 y)
        omega
      rw [td, hk, show (k : Int) - 1 = ((k - 1 : Nat) : Int) by omega]
      obtain ⟨o1, o2, a1, a2, _⟩ := RV_at i2 (k := k - 1) (by omega)
      have e24 := i2.1.2.2.2.2.1
      rw [o2]
      exact ⟨by omega, floorOf_v i2.1.1 o1 a1 a2 (by omega) (by omega) (by omega) (fun v s4 vb q1 q2 q3 => ⟨by unfold lR; omega, u158 (v + 1) s4 (rfq_tr i1 q1) (RVl_rfq i2 q1 q2) (fun _ p => fl_in (hc (k - 1) (by omega)) (by omega) q3)⟩)⟩
  · have hh := h c5
    have n80 := hh.1.1.1
    have e41 := hh.1.2.1
    have td : c.tdiv 2 = c / 2 := Int.tdiv_eq_ediv_of_nonneg c0
    have tm : c.tmod 2 = c % 2 := Int.tmod_eq_emod_of_nonneg c0
    rw [tm] at odd
    obtain ⟨k, hk⟩ : ∃ k : Nat, c / 2 = (k : Int) := ⟨(c / 2).toNat, by omega⟩
    have ck : (c / 2).toNat = k := by omega
    obtain ⟨o1, o2, a1, a2, _⟩ := RV_at hh (k := k) (by omega)
    rw [td, hk, o2]
    refine ⟨by omega, by omega, fun v hv => hQ v s rfq_rfl h (Or.inr ⟨⟨c5, c0, by omega, by omega, w1⟩, Or.inr ⟨odd, ?_⟩⟩)⟩
    rw [ck]
    rcases a2 with ⟨x, x1, x2, x3⟩ | ⟨z, z1, _⟩
    · have dp := x.den_pos
      refine Or.inl ⟨x, by show ds (od k) x = 0; rw [x3]; unfold qct; rw [show x - x = 0 by grind]; decide, ?_⟩
      rw [x1, x2, if_pos (by omega)] at hv
      rw [hv]
      by_cases q : (x.den : Int) ≤ 2000
      · rw [if_pos q, if_pos q]
        by_cases q' : w = 0
        · rw [if_neg (fun y => y q'), if_pos q']
        · rw [if_pos q', if_neg q']
      · rw [if_neg q, if_neg q]
    · rw [if_neg (fun q => q z)] at hv
      exact Or.inr ⟨z1, hv⟩
  · rcases w with w | w | w
    · exact Or.inl (fun q => q w)
    · exact Or.inr (Or.inl w)
    · by_cases c5 : wgf s 5 = 0
      · exact Or.inl (fun q => q c5)
      · have e41 := (h c5).1.2.1
        exact Or.inr (Or.inr (Or.inl (by omega)))
