/-! insert BY VALUE: the line rises -/
theorem lft9_tr {c1 c2 c3 : Rat → Int} (h1 : cut c1) (h2 : cut c2) (a : lft9 c1 c2) (b : lft9 c2 c3) : lft9 c1 c3 := by
  obtain ⟨x, hx⟩ := b
  have n : c2 x ≠ 1 := by rcases hx with q | q | q <;> rw [q.1] <;> decide
  have l := lft9_r h1 h2 a n
  rcases hx with q | q | q
  · exact ⟨x, Or.inl ⟨l, q.2⟩⟩
  · exact ⟨x, Or.inl ⟨l, q.2⟩⟩
  · exact ⟨x, Or.inr (Or.inr ⟨l, q.2⟩)⟩
theorem RTP_mv {s s' : im_S} {N e n0 n : Nat} {p : Nat → List Int} {cs : Nat → Rat → Int} (h : RTP s N e n0 n p cs) (ow : ∀ j, j < N → s'.1 (311 + 3 * j) 0 = s.1 (311 + 3 * j) 0) (rd : ∀ j o : Nat, j < N → s.1 (311 + 3 * j) 0 = (o : Int) → rdt s j o (p o) (cs j) → rdt s' j o (p o) (cs j)) : RTP s' N e n0 n p cs := by
  obtain ⟨h1, h2, h3⟩ := h
  refine ⟨fun j hj => ?_, fun o ho hd c cc ct => ?_, fun i j ij jN e => h3 i j ij jN (by rw [← ow i (by omega), ← ow j jN]; exact e)⟩
  · obtain ⟨a, o, b1, b2, b3, b4, b5⟩ := h1 j hj
    exact ⟨a, o, b1, b2, by rw [ow j hj]; exact b3, b4, rd j o hj b3 b5⟩
  · obtain ⟨j, j1, j2, j3⟩ := h2 o ho hd c cc ct
    exact ⟨j, j1, by rw [ow j j1]; exact j2, j3⟩
/-- what the line's loop keeps -/
def LIV (s : im_S) (N n mm : Nat) (D : Int) (p : Nat → List Int) (M : Nat → Nat → Nat) (cs : Nat → Rat → Int) : Prop := BI s n D ∧ BF s n p M mm ∧ RTP s N n n n p cs ∧ (∃ lo hi mi ot, fq s lo hi mi ot) ∧ big s 553 1
def iwf (s s' : im_S) : Prop := gfr (fun c f => (c = 1 ∧ f = 4) ∨ (555 ≤ c ∧ c ≤ 575 ∧ (f = 1 ∨ f = 2))) (fun c => 556 ≤ c ∧ c ≤ 577) s s'
theorem iwf_wk {s s' : im_S} (h : wkf s s') : iwf s s' := gfr_mono h (fun c f e => by omega) (fun c e => by omega)
theorem iwf_in {N : Nat} {s s' : im_S} (h : iwf s s') : inf9 N s s' := gfr_mono h (fun c f e => by unfold inF cdF; omega) (fun c e => by unfold inR cdR; omega)
theorem LIV_co {s s' : im_S} {N n mm : Nat} {D : Int} {p : Nat → List Int} {M : Nat → Nat → Nat} {cs : Nat → Rat → Int} (hN : N ≤ 80) (h : LIV s N n mm D p M cs) (w : iwf s s') : LIV s' N n mm D p M cs := by
  obtain ⟨I, F, R, ⟨lo, hi, mi, ot, f⟩, o⟩ := h
  have n80 := I.2.1
  refine ⟨BI_co I w (fun e he => by omega) (fun e he => by omega) (by omega) (dI_co I.2.2.2.2 w (by omega) (by omega)), BF_co F w n80 (fun e he => by omega) (fun e he => by omega) (by omega), RTP_mv R (fun j hj => w.1 _ _ (by omega)) (fun j o hj _ q => rdt_co q w (fun k _ => by omega) (fun k => by omega) (by omega)), ⟨lo, hi, mi, ot, fq_co f w (fun k => by omega)⟩, big_g o w (by omega) (by omega) (by omega)⟩
theorem LIV_dp {s s' : im_S} {N n mm ia ib oa ob : Nat} {D : Int} {p : Nat → List Int} {M : Nat → Nat → Nat} {cs : Nat → Rat → Int} (hN : N ≤ 80) (ha : ia < N) (hb : ib < N) (h : LIV s N n mm D p M cs) (wa : s.1 (311 + 3 * ia) 0 = (oa : Int)) (wb : s.1 (311 + 3 * ib) 0 = (ob : Int)) (d : DPI s n mm ia ib oa ob D p M (cs ia) (cs ib) s') : LIV s' N n mm D p M cs := by
  obtain ⟨A, B, I, F, f, o, g⟩ := d
  refine ⟨I, F, RTP_mv h.2.2.1 (fun j hj => g.1 _ _ (by unfold tgF; omega)) (fun j q hj eo r => ?_), f, o⟩
  by_cases c1 : j = ia
  · subst c1
    have : q = oa := by omega
    subst this
    exact Or.inr A
  · by_cases c2 : j = ib
    · subst c2
      have : q = ob := by omega
      subst this
      exact Or.inr B
    · exact rdt_co r g (fun k _ => by unfold tgF; omega) (fun k => by unfold tgF; omega) (by unfold tgR; omega)
theorem dpf_in {N ia ib : Nat} {s s' : im_S} (ha : ia < N) (hb : ib < N) (h : dpf ia ib s s') : inf9 N s s' := gfr_mono h (fun c f e => by unfold tgF at e; unfold inF cdF; omega) (fun c e => by unfold tgR at e; unfold inR cdR; omega)
/-- the coming root i against an earlier one -/
theorem cmp_v {s : im_S} {N n mm i ir : Nat} {D : Int} {p : Nat → List Int} {M : Nat → Nat → Nat} {cs : Nat → Rat → Int} {R : Int → im_S → Prop} (hN : N ≤ 80) (hi : i < N) (hir : ir < i) (h : LIV s N n mm D p M cs) (hR : ∀ v s', LIV s' N n mm D p M cs → s'.2 577 = s.2 577 → s'.1 1 4 = s.1 1 4 → inf9 N s s' → ((v < 0 ∧ lft9 (cs i) (cs ir)) ∨ (0 ≤ v ∧ lft9 (cs ir) (cs i))) → R v s') : C_compareQuickly3 (311 + 3 * i) (311 + 3 * ir) s (fun z12 s11 => ((¬ (z12 = 0) → R z12 s11) ∧ (z12 = 0 → (((cgf s11 (311 + 3 * i) 0) = (cgf s11 (311 + 3 * ir) 0) → R z12 s11) ∧ (¬ ((cgf s11 (311 + 3 * i) 0) = (cgf s11 (311 + 3 * ir) 0)) → (C_compareDeeply3 (311 + 3 * i) (311 + 3 * ir) s11 R)))))) := by
  have h0 := h
  obtain ⟨I, F, ⟨r1, r2, r3⟩, f, o⟩ := h
  obtain ⟨ca, oa, a1, _, a3, a4, a5⟩ := r1 i hi
  obtain ⟨cb, ob, b1, _, b3, b4, b5⟩ := r1 ir (by omega)
  refine quickly_v (by omega) (by omega) a1 b1 I F f ca cb a5 b5 (fun z s1 w1 hc => ?_)
  have w := iwf_wk w1
  have L1 := LIV_co hN h0 w
  have ro : s1.2 577 = s.2 577 := w1.2 _ (by omega)
  have zo : s1.1 1 4 = s.1 1 4 := w1.1 _ _ (by omega)
  have wa : s1.1 (311 + 3 * i) 0 = (oa : Int) := by rw [w1.1 _ _ (by omega)]; exact a3
  have wb : s1.1 (311 + 3 * ir) 0 = (ob : Int) := by rw [w1.1 _ _ (by omega)]; exact b3
  have same : oa = ob → lft9 (cs ir) (cs i) := fun e => r3 ir i hir hi (by rw [a3, b3, e])
  refine ⟨fun z0 => hR z s1 L1 ro zo (iwf_in w) ?_, fun z0 => ⟨fun e => hR z s1 L1 ro zo (iwf_in w) (Or.inr ⟨by omega, same ?_⟩), fun e => ?_⟩⟩
  · rcases hc with ⟨e, l⟩ | ⟨e, l⟩ | ⟨e, l⟩
    · exact Or.inr ⟨by omega, l⟩
    · exact Or.inl ⟨by omega, l⟩
    · exact absurd e z0
  · have e' : s1.1 (311 + 3 * i) 0 = s1.1 (311 + 3 * ir) 0 := e
    omega
  · have oab : oa ≠ ob := fun q => e (show s1.1 _ _ = s1.1 _ _ by rw [wa, wb, q])
    have both : rN9 s i oa (p oa) (cs i) ∧ rN9 s ir ob (p ob) (cs ir) := by
      rcases hc with ⟨e, _⟩ | ⟨e, _⟩ | ⟨_, l | l⟩
      · omega
      · omega
      · exfalso
        rw [l] at a4
        exact rtc_cop cb (F.2.1 oa ob a1 b1 oab) a4 b4
      · exact l
    refine deeply_v (by omega) (by omega) (by omega) a1 b1 oab ⟨rN9_wk both.1 (by omega) w1, rN9_wk both.2 (by omega) w1, L1.1, L1.2.1, L1.2.2.2.1, L1.2.2.2.2, gfr_refl _ _ _⟩ (fun v s2 d2 hv => ?_)
    have g2 := d2.2.2.2.2.2.2
    refine hR v s2 (LIV_dp hN hi (by omega) L1 wa wb d2) ?_ ?_ (gfr_trans (iwf_in w) (dpf_in hi (by omega) g2)) ?_
    · rw [g2.2 577 (by unfold tgR; omega)]; exact ro
    · rw [g2.1 1 4 (by unfold tgF; omega)]; exact zo
    · rcases hv with ⟨e, l⟩ | ⟨e, l⟩
      · exact Or.inr ⟨by omega, l⟩
      · exact Or.inl ⟨by omega, l⟩
/-- the order: the first z roots, rising -/
def ODV (r : Nat → Int) (z : Nat) (cs : Nat → Rat → Int) : Prop := (∀ k, k < z → ∃ m : Nat, m < z ∧ r k = (m : Int)) ∧ (∀ m : Nat, m < z → ∃ k, k < z ∧ r k = (m : Int)) ∧ ∀ k k' m m' : Nat, k < k' → k' < z → r k = (m : Int) → r k' = (m' : Int) → lft9 (cs m) (cs m')
theorem ODV_ins {r0 r : Nat → Int} {z t : Nat} {cs : Nat → Rat → Int} (h : ODV r0 z cs) (tz : t ≤ z) (e1 : ∀ k, k < t → r k = r0 k) (e2 : r t = (z : Int)) (e3 : ∀ k, t ≤ k → k < z → r (k + 1) = r0 k) (hl : ∀ k m : Nat, k < t → r0 k = (m : Int) → lft9 (cs m) (cs z)) (hr : ∀ k m : Nat, t ≤ k → k < z → r0 k = (m : Int) → lft9 (cs z) (cs m)) : ODV r (z + 1) cs := by
  obtain ⟨h1, h2, h3⟩ := h
  have hi : ∀ k, t < k → k < z + 1 → ∃ j, k = j + 1 ∧ t ≤ j ∧ j < z ∧ r k = r0 j := fun k a b => ⟨k - 1, by omega, by omega, by omega, by
    have := e3 (k - 1) (by omega) (by omega)
    rw [show k - 1 + 1 = k by omega] at this
    exact this⟩
  refine ⟨fun k hk => ?_, fun m hm => ?_, fun k k' m m' kk kz q q' => ?_⟩
  · rcases Nat.lt_trichotomy k t with c | c | c
    · obtain ⟨m, m1, m2⟩ := h1 k (by omega)
      exact ⟨m, by omega, by rw [e1 k c]; exact m2⟩
    · subst c; exact ⟨z, by omega, e2⟩
    · obtain ⟨j, _, _, j3, j4⟩ := hi k c hk
      obtain ⟨m, m1, m2⟩ := h1 j j3
      exact ⟨m, by omega, by rw [j4]; exact m2⟩
  · by_cases c : m = z
    · subst c; exact ⟨t, by omega, e2⟩
    · obtain ⟨k, k1, k2⟩ := h2 m (by omega)
      by_cases c2 : k < t
      · exact ⟨k, by omega, by rw [e1 k c2]; exact k2⟩
      · exact ⟨k + 1, by omega, by rw [e3 k (by omega) k1]; exact k2⟩
  · rcases Nat.lt_trichotomy k' t with c' | c' | c'
    · rw [e1 k (by omega)] at q
      rw [e1 k' c'] at q'
      exact h3 k k' m m' kk (by omega) q q'
    · subst c'
      have : m' = z := by omega
      subst this
      rw [e1 k kk] at q
      exact hl k m kk q
    · obtain ⟨j', _, j2', j3', j4'⟩ := hi k' c' kz
      rw [j4'] at q'
      rcases Nat.lt_trichotomy k t with c | c | c
      · rw [e1 k c] at q
        exact h3 k j' m m' (by omega) j3' q q'
      · subst c
        have : m = z := by omega
        subst this
        exact hr j' m' j2' j3' q'
      · obtain ⟨j, _, j2, j3, j4⟩ := hi k c (by omega)
        rw [j4] at q
        exact h3 j j' m m' (by omega) j3' q q'
