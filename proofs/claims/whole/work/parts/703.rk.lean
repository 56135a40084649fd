/-! all roots: what a question leaves as it was -/
def rk (s : im_S) (R : Nat) (f : Int) (F : List Int) (lo hi : Rat) : Prop := (0 < wga s 609 (R : Int) ∧ wga s 609 (R : Int) ≤ 1000000000 ∧ -1000000000 ≤ wga s 608 (R : Int) ∧ wga s 608 (R : Int) ≤ 1000000000) ∨ (wga s 609 (R : Int) = 0 ∧ fct F ∧ pol s f F ∧ ∃ (h : Int) (E : Nat), E ≤ 2000 ∧ rfi s (R : Int) f F h E ∧ lo ≤ (h : Rat) * wd E ∧ ((h : Rat) + 1) * wd E ≤ hi)
def rkl (s : im_S) (n : Nat) (f : Nat → Int) (F : Nat → List Int) (lo hi : Nat → Rat) : Prop := n ≤ 80 ∧ ∀ R : Nat, R < n → rk s R (f R) (F R) (lo R) (hi R)
def rfq (s s' : im_S) : Prop := (∀ c f : Nat, ¬ (c = 582 ∧ f = 25) → s'.1 c f = s.1 c f) ∧ (∀ c i : Nat, ¬ (c = 597 ∧ wgf s 24 ≤ (i : Int)) → c ≠ 612 → s'.2 c i = s.2 c i)
theorem rfq_rfl {s : im_S} : rfq s s := ⟨fun _ _ _ => rfl, fun _ _ _ _ => rfl⟩
theorem rfq_f {s s' : im_S} (h : rfq s s') (f : Nat) (hf : f ≠ 25) : wgf s' f = wgf s f := h.1 582 f (fun z => hf z.2)
theorem rfq_24 {s s' : im_S} (h : rfq s s') : wgf s' 24 = wgf s 24 := rfq_f h 24 (by decide)
theorem rfq_tr {s s1 s2 : im_S} (h1 : rfq s s1) (h2 : rfq s1 s2) : rfq s s2 := ⟨fun c f q => (h2.1 c f q).trans (h1.1 c f q), fun c i q1 q2 => (h2.2 c i (by rw [rfq_24 h1]; exact q1) q2).trans (h1.2 c i q1 q2)⟩
theorem rfr_rfq {R : Int} {s s' : im_S} (h : rfr R s s') (hR : R ≤ 79) (hm : wgf s 24 ≤ 684000) : rfq s s' := ⟨h.1, fun c i q1 q2 => h.2 c i (fun z => q1 ⟨z.1, z.2.1⟩) (fun z => q1 ⟨z.1, by omega⟩) (fun z => q2 z.1)⟩
theorem sb_rfq {s s' : im_S} (h : sb s s') (hm : wgf s 24 ≤ 684000) : rfq s s' := rfr_rfq (sb_rfr (R := 0) h) (by omega) hm
theorem rfq_row {s s' : im_S} (h : rfq s s') (c : Nat) (i : Int) (h1 : c ≠ 597) (h2 : c ≠ 612) : wga s' c i = wga s c i := h.2 c i.toNat (fun z => h1 z.1) h2
theorem rfr_row {R : Int} {s s' : im_S} (h : rfr R s s') (c : Nat) (i : Int) (h1 : c ≠ 597) (h2 : ¬ (c = 612 ∧ (i.toNat : Int) = R)) : wga s' c i = wga s c i := h.2 c i.toNat (fun z => h1 z.1) (fun z => h1 z.1) h2
theorem rk_rfr {s s' : im_S} {R : Int} {R' : Nat} {f : Int} {F : List Int} {lo hi : Rat} (h : rfr R s s') (hR : 0 ≤ R ∧ R ≤ 79) (hR' : R' ≤ 79) (hne : (R' : Int) ≠ R) (hm : wgf s 24 ≤ 684000) (hk : rk s R' f F lo hi) : rk s' R' f F lo hi := by
  have r9 : ∀ c : Nat, c ≠ 597 → wga s' c (R' : Int) = wga s c (R' : Int) := fun c h1 => rfr_row h c _ h1 (fun z => by omega)
  rcases hk with k | ⟨k1, k2, k3, hh, E, k4, ⟨i1, i2, i3, i4, i5, i6, i7, i8⟩, k6, k7⟩
  · exact Or.inl (by rw [r9 609 (by decide), r9 608 (by decide)]; exact k)
  · refine Or.inr ⟨by rw [r9 609 (by decide)]; exact k1, k2, rfr_pol h hR.2 hm k3, hh, E, k4, ⟨by rw [r9 610 (by decide)]; exact i1, by rw [r9 611 (by decide)]; exact i2, by rw [r9 612 (by decide)]; exact i3, ?_, i5, i6, i7, by rw [r9 613 (by decide)]; exact i8⟩, k6, k7⟩
    have lh := rfi_lim i5
    obtain ⟨x, hx⟩ : ∃ x : Int, x = 700000 - 200 * ((R' : Int) + 1) := ⟨_, rfl⟩
    rw [← hx] at i4 ⊢
    refine num_co i4 i4.1 i4.2.1 (fun t t1 t2 => ?_)
    have z0 := i4.1
    exact h.2 597 (x + t).toNat (by omega) (by omega) (by omega)
theorem rk_sb {s s' : im_S} {R' : Nat} {f : Int} {F : List Int} {lo hi : Rat} (h : sb s s') (hR' : R' ≤ 79) (hm : wgf s 24 ≤ 684000) (hk : rk s R' f F lo hi) : rk s' R' f F lo hi := by
  by_cases c : R' = 0
  · exact rk_rfr (R := 1) (sb_rfr h) (by omega) hR' (by omega) hm hk
  · exact rk_rfr (R := 0) (sb_rfr h) (by omega) hR' (by omega) hm hk
theorem rkl_sb {s s' : im_S} {n : Nat} {f : Nat → Int} {F : Nat → List Int} {lo hi : Nat → Rat} (h : sb s s') (hm : wgf s 24 ≤ 684000) (hk : rkl s n f F lo hi) : rkl s' n f F lo hi := ⟨hk.1, fun R hR => rk_sb h (by have := hk.1; omega) hm (hk.2 R hR)⟩
theorem rkl_up {s s' : im_S} {n : Nat} {f : Nat → Int} {F : Nat → List Int} {lo hi : Nat → Rat} {R : Nat} (h : rfr (R : Int) s s') (hR : R < n) (hm : wgf s 24 ≤ 684000) (hk : rkl s n f F lo hi) (hn : rk s' R (f R) (F R) (lo R) (hi R)) : rkl s' n f F lo hi := ⟨hk.1, fun R' hR' => by
  have := hk.1
  by_cases c : R' = R
  · rw [c]; exact hn
  · exact rk_rfr h (by omega) (by omega) (by omega) hm (hk.2 R' hR')⟩
theorem against_ok {s : im_S} {n : Nat} {f : Nat → Int} {F : Nat → List Int} {lo hi : Nat → Rat} {R : Nat} {p q : Int} {Q : Int → im_S → Prop} (hk : rkl s n f F lo hi) (hR : R < n) (hp : -1000000000 ≤ p ∧ p ≤ 1000000000) (hq : 0 < q ∧ q ≤ 1000000000) (h0 : 0 ≤ wgf s 24) (hm : wgf s 24 + 300000 ≤ 684000) (hQ : ∀ (v : Int) (s' : im_S), -1 ≤ v ∧ v ≤ 1 → rfq s s' → rkl s' n f F lo hi → Q v s') : W_against (R : Int) p q s Q := by
  have n80 := hk.1
  rcases hk.2 R hR with k | ⟨k1, k2, k3, hh, E, k4, k5, k6, k7⟩
  · refine against_fr (by omega) rfl rfl (by omega) (by omega) (by omega) (by omega) h0 (by omega) (fun s' a => hQ _ s' ?_ (sb_rfq a (by omega)) (rkl_sb a (by omega) hk))
    have := sg_c (wga s 608 (R : Int) * q - p * wga s 609 (R : Int))
    omega
  · unfold W_against
    refine ⟨by omega, fun _ => ?_, fun c => absurd c (by omega)⟩
    refine against_71 (by omega) k2 k3 k4 k5 k6 k7 (by omega) (by omega) h0 hm (fun s' v h E a1 a2 a3 a4 a5 a6 => hQ v s' (by omega) (rfr_rfq a1 (by omega) (by omega)) (rkl_up a1 hR (by omega) hk (Or.inr ⟨?_, k2, rfr_pol a1 (by omega) (by omega) k3, h, E, a2, a3, a4, a5⟩)))
    rw [rfr_row a1 609 _ (by decide) (fun z => by omega)]; exact k1
theorem refine_rk {s : im_S} {n : Nat} {f : Nat → Int} {F : Nat → List Int} {lo hi : Nat → Rat} {R : Nat} {Q : im_S → Prop} (hk : rkl s n f F lo hi) (hR : R < n) (h9 : wga s 609 (R : Int) = 0) (h12 : wga s 612 (R : Int) < 2000) (h0 : 0 ≤ wgf s 24) (hm : wgf s 24 + 300000 ≤ 684000) (hQ : ∀ s' : im_S, rfq s s' → rkl s' n f F lo hi → wga s' 612 (R : Int) = wga s 612 (R : Int) + 1 → (∀ R' : Nat, R' ≠ R → wga s' 612 (R' : Int) = wga s 612 (R' : Int)) → Q s') : W_refine (R : Int) s Q := by
  have n80 := hk.1
  rcases hk.2 R hR with k | ⟨k1, k2, k3, h, E, k4, k5, k6, k7⟩
  · omega
  have e12 := k5.2.2.1
  refine refine_ok (by omega) (by omega) k3 k2 k5 h0 hm (fun s' h' w1 w2 w3 => hQ s' (rfr_rfq w2 (by omega) (by omega)) (rkl_up w2 hR (by omega) hk (Or.inr ⟨?_, k2, rfr_pol w2 (by omega) (by omega) k3, h', E + 1, by omega, w3, ?_, ?_⟩)) ?_ (fun R' hne => rfr_row w2 612 _ (by decide) (fun z => by omega)))
  · rw [rfr_row w2 609 _ (by decide) (fun z => by omega)]; exact k1
  · obtain ⟨v1, v2⟩ := mid_ev h E
    have wp := wd_pos ((E + 1 : Nat) : Int)
    have c2a : ((h * 2 + 1 : Int) : Rat) = ((h * 2 : Int) : Rat) + 1 := by rw [Rat.intCast_add]; rfl
    rcases w1 with w | w
    · rw [w, v1]; exact k6
    · rw [w, c2a]
      rw [← v1] at k6
      grind
  · obtain ⟨v1, v2⟩ := mid_ev h E
    have wp := wd_pos ((E + 1 : Nat) : Int)
    have c2a : ((h * 2 + 1 : Int) : Rat) = ((h * 2 : Int) : Rat) + 1 := by rw [Rat.intCast_add]; rfl
    rcases w1 with w | w
    · rw [w]
      rw [← v2, c2a] at k7
      grind
    · rw [w, v2]; exact k7
  · have x1 := w3.2.2.1
    omega
