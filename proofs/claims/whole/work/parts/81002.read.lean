/-! WHAT WAS READ, on both sides -/
def RA (s : im_S) : Prop := (s.1 0 3 = 0 ∧ wgf s 5 = 0) ∨ (s.1 0 3 ≠ 0 ∧ wgf s 5 ≠ 0 ∧ ∃ A, tat s A ∧ rat s A)
def LI4 (s : im_S) : Prop := LI3 s ∧ RA s
/-- the class's cells of what was read are as they were -/
def rdk (s s' : im_S) : Prop := s'.1 0 3 = s.1 0 3 ∧ (∀ c f, 2 ≤ c → c ≤ 82 → s'.1 c f = s.1 c f) ∧ ∀ c, 4 ≤ c → c ≤ 82 → s'.2 c = s.2 c
theorem rdk_trans {s s1 s2 : im_S} (h : rdk s s1) (h2 : rdk s1 s2) : rdk s s2 := ⟨h2.1.trans h.1, fun c f a b => (h2.2.1 c f a b).trans (h.2.1 c f a b), fun c a b => (h2.2.2 c a b).trans (h.2.2 c a b)⟩
theorem rdk_fr {F : Nat → Nat → Prop} {R : Nat → Prop} {s s' : im_S} (f : gfr F R s s') (h0 : ¬ F 0 3) (h1 : ∀ c k, F c k → c < 2 ∨ 82 < c) (h2 : ∀ c, R c → c < 4 ∨ 82 < c) : rdk s s' := ⟨f.1 _ _ h0, fun c k a b => f.1 _ _ (fun z => by have := h1 c k z; omega), fun c a b => f.2 _ (fun z => by have := h2 c z; omega)⟩
theorem rdk_qs {s s' : im_S} (h : qsf s s') : rdk s s' := rdk_fr h (by omega) (fun c k e => by omega) (fun c e => by omega)
theorem rdk_cl {s s' : im_S} (h : clf s s') : rdk s s' := ⟨(h 0 3 (by decide)).1, fun c f a b => (h c f (by omega)).1, fun c a b => funext (fun i => (h c i (by omega)).2)⟩
theorem tat_rk {s s' : im_S} {A : ats} (h : tat s A) (k : rdk s s') : tat s' A := by
  obtain ⟨a, b, c⟩ := h
  refine ⟨by rw [k.2.1 _ _ (by omega) (by omega)]; exact a, b, fun i p w e => ?_⟩
  have hi := at_lt e
  obtain ⟨x, y, z⟩ := c i p w e
  refine ⟨?_, y, by rw [k.2.2 _ (by omega) (by omega)]; exact z⟩
  obtain ⟨x1, x2⟩ := x
  exact ⟨fun j hj => by rw [k.2.2 _ (by omega) (by omega)]; exact x1 j hj, by rw [k.2.1 _ _ (by omega) (by omega)]; exact x2⟩
/-- the reference's cells of what was read -/
def rrk (s s' : im_S) : Prop := wgf s' 5 = wgf s 5 ∧ wgf s' 6 = wgf s 6 ∧ s'.2 584 = s.2 584 ∧ s'.2 585 = s.2 585
theorem rrk_trans {s s1 s2 : im_S} (h : rrk s s1) (h2 : rrk s1 s2) : rrk s s2 := ⟨h2.1.trans h.1, h2.2.1.trans h.2.1, h2.2.2.1.trans h.2.2.1, h2.2.2.2.trans h.2.2.2⟩
theorem rrk_rs {s s' : im_S} (h : rsm s s') : rrk s s' := ⟨rsm_f h 5, rsm_f h 6, (h 584 (by decide)).2, (h 585 (by decide)).2⟩
theorem rrk_rq {s s' : im_S} (h : rfq s s') : rrk s s' := ⟨rfq_f h 5 (by decide), rfq_f h 6 (by decide), funext (fun i => h.2 584 i (by omega) (by decide)), funext (fun i => h.2 585 i (by omega) (by decide))⟩
theorem rrk_fw {s s' : im_S} (h : fw [1] [583] s s') : rrk s s' := ⟨fw_f h 5 (by decide), fw_f h 6 (by decide), funext (fun i => h.2 584 i (by decide)), funext (fun i => h.2 585 i (by decide))⟩
theorem RA_k {s s' : im_S} (h : RA s) (k : rdk s s') (r : rrk s s') : RA s' := by
  rcases h with ⟨a, b⟩ | ⟨a, b, A, c, d⟩
  · exact Or.inl ⟨k.1.trans a, r.1.trans b⟩
  · exact Or.inr ⟨by rw [k.1]; exact a, by rw [r.1]; exact b, A, tat_rk c k, rat_of d r.2.1 r.2.2.1 r.2.2.2⟩
/-- behind a question on both sides -/
theorem RA_o {s s1 s2 : im_S} (h : RA s) (r : rsm s s1) (T1 : qsf s s1) (q : rfq s1 s2) : RA s2 := RA_k h (rdk_trans (rdk_qs T1) (rdk_cl (rfq_clf q))) (rrk_trans (rrk_rs r) (rrk_rq q))
/-- behind type or four -/
theorem RA_w {s s1 s2 : im_S} (h : RA s) (r : rsm s s1) (k : rdk s s1) (q : fw [1] [583] s1 s2) : RA s2 := RA_k h (rdk_trans k (rdk_cl (fw_clf q (fun c hc => by simp at hc; omega)))) (rrk_trans (rrk_rs r) (rrk_fw q))
/-- behind load -/
theorem RA_l {R : ou ats} {s1 s2 : im_S} (h3 : s1.1 0 3 = kno R) (ht : ∀ j A, R = .inr (j, A) → tat s1 A) (q : clf s1 s2) (h5 : wgf s2 5 = kno R) (hr : ∀ j A, R = .inr (j, A) → rat s2 A) : RA s2 := by
  have k := rdk_cl q
  cases R with
  | inl e => exact Or.inl ⟨k.1.trans h3, h5⟩
  | inr z =>
    obtain ⟨j, A⟩ := z
    exact Or.inr ⟨by rw [k.1, h3]; exact (show (1 : Int) ≠ 0 by decide), by rw [h5]; exact (show (1 : Int) ≠ 0 by decide), A, tat_rk (ht j A rfl) k, hr j A rfl⟩
/-- type and four keep all but their own -/
theorem type_rk {x : Int} {s : im_S} {Q : Int → im_S → Prop} (hQ : ∀ z s', rdk s s' → Q z s') : C_type9 x s Q := by
  have rf : rdk s s := ⟨rfl, fun _ _ _ _ => rfl, fun _ _ _ => rfl⟩
  intro v ev
  refine ⟨fun z => hQ _ _ rf, fun z => ⟨fun c _ s1 e1 s2 e2 => hQ _ _ ?_, fun c => hQ _ _ rf⟩⟩
  have g : gfr (fun c f => c = 0 ∧ f = 0) (fun c => c = 3) s s2 := by subst e2; subst e1; exact gfr_pf (gfr_pa (gfr_refl _ _ _) rfl) ⟨rfl, rfl⟩
  exact rdk_fr g (by omega) (fun c k e => by omega) (fun c e => by omega)
theorem four_rk {x : Int} {s : im_S} {Q : Int → im_S → Prop} (hQ : ∀ z s', rdk s s' → Q z s') : C_four9 x s Q := by
  have rf : rdk s s := ⟨rfl, fun _ _ _ _ => rfl, fun _ _ _ => rfl⟩
  refine ⟨fun a => a.2.2 = s, rfl, ?_⟩
  rintro ⟨u, v, s1⟩ e
  dsimp only at e ⊢
  subst e
  refine ⟨fun _ => ⟨fun _ => ?_, fun _ => hQ _ _ rf⟩, fun _ => ⟨fun _ v ev => rfl, fun _ v ev => ⟨fun _ w ew => rfl, fun _ => hQ _ _ rf⟩⟩⟩
  refine ⟨fun a => rdk s1 a.2, rf, ?_⟩
  rintro ⟨u, s2⟩ h2
  dsimp only at h2 ⊢
  refine ⟨fun _ => hQ _ _ h2, fun _ => ⟨fun _ => h2, fun _ => ⟨fun _ => h2, fun _ _ s3 e3 s4 e4 => ?_⟩⟩⟩
  have g : gfr (fun c f => c = 0 ∧ f = 0) (fun c => c = 3) s2 s4 := by subst e4; subst e3; exact gfr_pf (gfr_pa (gfr_refl _ _ _) rfl) ⟨rfl, rfl⟩
  exact rdk_trans h2 (rdk_fr g (by omega) (fun c k e => by omega) (fun c e => by omega))
theorem U_type (L : Nat) (ys : Nat → Int32) (d : Nat) (s : im_S) (h : KP s) (h0 : 0 ≤ s.1 0 0) (h4 : s.1 0 0 ≤ 400) (l1 : Int) (l1r : iR l1) : pcI L ys 0 d 226 [(2, ((0 : Nat) : Int)), (0, l1)] s (fun _ s' => (KP s' ∧ tyq l1 (s.1 0 0) (s.2 3) (s'.1 0 0) (s'.2 3)) ∧ rdk s s') := pcI_and9 (T_type L ys d s h h0 h4 l1 l1r) (pcI_q9 (c_type9 L ys d s h.1 l1 l1r (fun _ s' => rdk s s') (type_rk (fun _ _ q => q))))
theorem U_four (L : Nat) (ys : Nat → Int32) (d : Nat) (s : im_S) (h : KP s) (h0 : 0 ≤ s.1 0 0) (h4 : s.1 0 0 ≤ 400) (l1 : Int) (l1r : iR l1) : pcI L ys 0 d 211 [(2, ((0 : Nat) : Int)), (0, l1)] s (fun _ s' => (KP s' ∧ fsq l1 (s.1 0 0) (s.2 3) (s'.1 0 0) (s'.2 3)) ∧ rdk s s') := pcI_and9 (T_four L ys d s h h0 h4 l1 l1r) (pcI_q9 (c_four9 L ys d s h.1 l1 l1r (fun _ s' => rdk s s') (four_rk (fun _ _ q => q))))
/-- what signAt of the class answers -/
def sgV (s : im_S) (A : ats) (x a q z : Int) : Prop := ((s.1 0 3 = 0 ∨ x < 0 ∨ s.1 2 11 ≤ x ∨ q < 1 ∨ 1000000000 < q ∨ a < -1000000000 ∨ 1000000000 < a) ∧ z = -2) ∨ ((s.1 0 3 ≠ 0 ∧ 0 ≤ x ∧ x < s.1 2 11 ∧ 1 ≤ q ∧ q ≤ 1000000000 ∧ -1000000000 ≤ a ∧ a ≤ 1000000000) ∧ ∃ P w, A[x.toNat]? = some (P, w) ∧ sgA P a q z)
theorem V_signAt (L : Nat) (ys : Nat → Int32) (d : Nat) (s : im_S) (h : KP s) (A : ats) (hA : s.1 0 3 = 0 ∨ tat s A) (l1 : Int) (l1r : iR l1) (l2 : Int) (l2r : iR l2) (l3 : Int) (l3r : iR l3) : pcI L ys 0 d 223 [(2, ((0 : Nat) : Int)), (0, l1), (0, l2), (0, l3)] s (fun z s' => KT s s' ∧ sgV s A l1 l2 l3 z) := pcI_and9 (T_signAt L ys d s h l1 l1r l2 l2r l3 l3r) (pcI_q9 (c_signAt9 L ys d s h.1 l1 l1r l2 l2r l3 l3r (fun z _ => sgV s A l1 l2 l3 z) (signAt_v (KP_1 h) hA (fun _ _ q => q))))
/-- both answer alike -/
theorem sg_same {s s1 : im_S} {A : ats} {x a q z z' : Int} (hA : (s.1 0 3 = 0 ∧ wgf s 5 = 0) ∨ (s.1 0 3 ≠ 0 ∧ wgf s 5 ≠ 0 ∧ tat s A ∧ rat s A)) (r : rsm s s1) (h : sgV s A x a q z) (h' : sgQ (wgf s1 5) (wgf s1 6) x a q (rpo s1 x) z') : z = z' := by
  have k := rrk_rs r
  rw [k.1, k.2.1] at h'
  rcases hA with ⟨e1, e2⟩ | ⟨e1, e2, t, ra⟩
  · rcases h with ⟨_, w⟩ | ⟨w, _⟩
    · rcases h' with ⟨_, w'⟩ | ⟨w', _⟩
      · omega
      · exact absurd e2 w'.1
    · exact absurd e1 w.1
  · have e6 : wgf s 6 = s.1 2 11 := by rw [t.1]; exact ra.1
    rcases h with ⟨b, w⟩ | ⟨b, P, w, e, g⟩
    · rcases h' with ⟨_, w'⟩ | ⟨w', _⟩
      · omega
      · omega
    · rcases h' with ⟨w', _⟩ | ⟨w', g'⟩
      · omega
      · obtain ⟨p1, p2, p3⟩ := ra.2.2 _ _ _ e
        refine sgA_u (fun j j9 => ?_) g g'
        have e8 := p1 j j9
        show P j = s1.2 584 (9 * x + (j : Int)).toNat
        rw [k.2.2.1, show (9 * x + (j : Int)).toNat = 9 * x.toNat + j by omega]
        exact e8.symm
