/-! THE NUMBERS THAT part FINDS -/
def lnk (n : Nat) (G : Nat → List Int) (Lf Rt : Nat → Rat) : Prop := ∀ i, i < n → (Rt i = Lf i ∧ ∃ p q : Int, 0 < q ∧ (q : Rat) * Lf i = p ∧ ∀ x : Rat, pev (G i) x = (q * x - p) * pev (G (i + 1)) x) ∨ (Lf i < Rt i ∧ ∀ x : Rat, pev (G i) x = pev (G (i + 1)) x)
theorem rtc_eq {F H : List Int} (e : ∀ x : Rat, pev F x = pev H x) {c : Rat → Int} (h : rtc F c) : rtc H c := by
  obtain ⟨t, t1, ⟨u, u1, u2⟩, v, v1, v2⟩ := h
  exact ⟨t, t1, ⟨u, u1, fun z a b => by rw [← e]; exact u2 z a b⟩, v, v1, fun z a b => by rw [← e]; exact v2 z a b⟩
theorem lnk_nz {n : Nat} {G : Nat → List Int} {Lf Rt : Nat → Rat} (h : lnk n G Lf Rt) (h0 : nzp (G 0)) : ∀ i, i ≤ n → nzp (G i)
  | 0, _ => h0
  | i + 1, hi => by
    have ih := lnk_nz h h0 i (by omega)
    refine Classical.byContradiction fun z => ?_
    have z' : ∀ k, pgt (G (i + 1)) k = 0 := fun k => Classical.byContradiction fun w => z ⟨k, w⟩
    have zz : ∀ x : Rat, pev (G (i + 1)) x = 0 := fun x => pev_eq (R := []) z' x
    obtain ⟨k, hk⟩ := ih
    refine hk (pev_zero (fun x => ?_) k)
    rcases h i (by omega) with ⟨_, p, q, _, _, e⟩ | ⟨_, e⟩
    · rw [e x, zz x, Rat.mul_zero]
    · rw [e x, zz x]
theorem lnk_down {n : Nat} {G : Nat → List Int} {Lf Rt : Nat → Rat} (h : lnk n G Lf Rt) (h0 : nzp (G 0)) {c : Rat → Int} (hc : cut c) : ∀ (j i : Nat), i + j = n → rtc (G i) c → (∃ k, k < n ∧ Rt k = Lf k ∧ c (Lf k) = 0) ∨ rtc (G n) c
  | 0, i, e, ht => Or.inr (by rw [← e]; exact ht)
  | j + 1, i, e, ht => by
    rcases h i (by omega) with ⟨r, p, q, q0, hz, ev⟩ | ⟨_, ev⟩
    · by_cases z : c (Lf i) = 0
      · exact Or.inl ⟨i, by omega, r, z⟩
      · have nl : ¬ rtc [-p, q] c := fun w => z (lin_turn q0 hz hc w)
        have t2 := (rtc_mul hc (nzp_lin (p := p) q0) (lnk_nz h h0 (i + 1) (by omega)) (fun x => by rw [ev x, lnf_ev])).1 ht
        rcases t2 with ⟨a, _⟩ | ⟨_, a⟩
        · exact absurd a nl
        · exact lnk_down h h0 hc j (i + 1) (by omega) a
    · exact lnk_down h h0 hc j (i + 1) (by omega) (rtc_eq ev ht)
theorem lnk_up {n : Nat} {G : Nat → List Int} {Lf Rt : Nat → Rat} (h : lnk n G Lf Rt) (h0 : nzp (G 0)) {c : Rat → Int} (hc : cut c) (nz : ∀ k, k < n → Rt k = Lf k → c (Lf k) ≠ 0) (ht : rtc (G n) c) : ∀ (j i : Nat), i + j = n → rtc (G i) c
  | 0, i, e => by rw [show i = n by omega]; exact ht
  | j + 1, i, e => by
    have ih := lnk_up h h0 hc nz ht j (i + 1) (by omega)
    rcases h i (by omega) with ⟨r, p, q, q0, hz, ev⟩ | ⟨_, ev⟩
    · have nl : ¬ rtc [-p, q] c := fun w => nz i (by omega) r (lin_turn q0 hz hc w)
      exact (rtc_mul hc (nzp_lin (p := p) q0) (lnk_nz h h0 (i + 1) (by omega)) (fun x => by rw [ev x, lnf_ev])).2 (Or.inr ⟨nl, ih⟩)
    · exact rtc_eq (fun x => (ev x).symm) ih
theorem lnk_root {n : Nat} {G : Nat → List Int} {Lf Rt : Nat → Rat} (h : lnk n G Lf Rt) {x : Rat} : ∀ (i : Nat), i ≤ n → pev (G i) x = 0 → pev (G 0) x = 0
  | 0, _, z => z
  | i + 1, hi, z => by
    refine lnk_root h i (by omega) ?_
    rcases h i (by omega) with ⟨_, p, q, _, _, ev⟩ | ⟨_, ev⟩
    · rw [ev x, z, Rat.mul_zero]
    · rw [ev x]; exact z
/-- the number in the k-th place -/
def csk (G : List Int) (Lf Rt : Nat → Rat) (t : Nat → Int) (k : Nat) : Rat → Int := if Lf k < Rt k then ict G (Lf k) (Rt k) (t k) else qct (Lf k)
/-- c lies within root k -/
def inr0 (Lf Rt : Nat → Rat) (c : Rat → Int) (k : Nat) : Prop := (Rt k = Lf k ∧ c (Lf k) = 0) ∨ (Lf k < Rt k ∧ c (Lf k) = 1 ∧ c (Rt k) = -1)
theorem qct_0 (x : Rat) : qct x x = 0 := by
  unfold qct
  rw [show x - x = 0 by grind]
  decide
theorem csk_ok {n : Nat} {G : Nat → List Int} {Lf Rt : Nat → Rat} (h : lnk n G Lf Rt) (sq : sqf (G 0)) (h0 : nzp (G 0)) (od : ∀ i j, i < j → j < n → Rt i ≤ Lf j) (hc : ∀ c : Rat → Int, cut c → rtc (G n) c → ∃ i, i < n ∧ Lf i < Rt i ∧ c (Lf i) = 1 ∧ c (Rt i) = -1) (hi : ∀ i, i < n → Lf i < Rt i → ∃ t : Int, iso (G n) (Lf i) (Rt i) t) : ∃ cs : Nat → Rat → Int, (∀ k, k < n → cut (cs k) ∧ rtc (G 0) (cs k) ∧ inr0 Lf Rt (cs k) k ∧ (Lf k < Rt k → rtc (G n) (cs k))) ∧ (∀ c : Rat → Int, cut c → rtc (G 0) c → ∃ k, k < n ∧ c = cs k) ∧ ∀ i j, i < j → j < n → ∃ x : Rat, cs i x = -1 ∧ cs j x = 1 ∨ (cs i x = 0 ∧ cs j x = 1) ∨ (cs i x = -1 ∧ cs j x = 0) := by
  have ex : ∀ k, ∃ t : Int, k < n → Lf k < Rt k → iso (G n) (Lf k) (Rt k) t := fun k => by
    by_cases c1 : k < n
    · by_cases c2 : Lf k < Rt k
      · obtain ⟨t, ht⟩ := hi k c1 c2
        exact ⟨t, fun _ _ => ht⟩
      · exact ⟨0, fun _ z => absurd z c2⟩
    · exact ⟨0, fun z => absurd z c1⟩
  obtain ⟨t, ht⟩ := Classical.axiomOfChoice ex
  have le : ∀ k, k < n → Lf k ≤ Rt k := fun k hk => by
    rcases h k hk with ⟨e, _⟩ | ⟨l, _⟩
    · rw [e]; exact Rat.le_refl
    · exact Rat.le_of_lt l
  have dat : ∀ k, k < n → cut (csk (G n) Lf Rt t k) ∧ inr0 Lf Rt (csk (G n) Lf Rt t k) k := fun k hk => by
    unfold csk
    by_cases c : Lf k < Rt k
    · rw [if_pos c]
      have is := ht k hk c
      refine ⟨ict_cut is, Or.inr ⟨c, ?_, ?_⟩⟩
      · unfold ict; rw [if_pos Rat.le_refl]
      · unfold ict; rw [if_neg (by grind), if_pos Rat.le_refl]
    · rw [if_neg c]
      have e : Rt k = Lf k := by
        have := le k hk
        grind
      exact ⟨qct_cut _, Or.inl ⟨e, qct_0 _⟩⟩
  have far : ∀ c : Rat → Int, cut c → ∀ k, k < n → inr0 Lf Rt c k → ∀ i, i < n → i ≠ k → (i < k → c (Rt i) = 1 ∨ (c (Rt i) = 0 ∧ Rt k = Lf k ∧ Lf k = Rt i)) ∧ (k < i → c (Lf i) = -1 ∨ (c (Lf i) = 0 ∧ Rt k = Lf k ∧ Lf k = Lf i)) := fun c cc k hk hin i hii hne => by
    constructor
    · intro ik
      have o := od i k ik hk
      rcases hin with ⟨e, z⟩ | ⟨_, z, _⟩
      · rcases Rat.le_iff_lt_or_eq.1 o with q | q
        · exact Or.inl (cc.2.1 _ _ q (by rw [z]; decide))
        · exact Or.inr ⟨by rw [q]; exact z, e, q.symm⟩
      · exact Or.inl (cut_le1 cc z o)
    · intro ki
      have o := od k i ki hii
      rcases hin with ⟨e, z⟩ | ⟨_, _, z⟩
      · rw [e] at o
        rcases Rat.le_iff_lt_or_eq.1 o with q | q
        · left
          refine Classical.byContradiction fun w => ?_
          have := cc.2.1 _ _ q w
          omega
        · exact Or.inr ⟨by rw [← q]; exact z, e, q⟩
      · exact Or.inl (cut_ge1 cc z o)
  have turn : ∀ k, k < n → rtc (G 0) (csk (G n) Lf Rt t k) := fun k hk => by
    obtain ⟨cc, hin⟩ := dat k hk
    by_cases c : Lf k < Rt k
    · have e : csk (G n) Lf Rt t k = ict (G n) (Lf k) (Rt k) (t k) := if_pos c
      have tn : rtc (G n) (csk (G n) Lf Rt t k) := by rw [e]; exact ict_rtc (ht k hk c)
      refine lnk_up h h0 cc (fun i hii ei z => ?_) tn n 0 (by omega)
      have hne : i ≠ k := fun w => by rw [w] at ei; rw [ei] at c; exact Rat.lt_irrefl c
      have f := far _ cc k hk hin i hii hne
      rcases Nat.lt_or_gt_of_ne hne with w | w
      · rcases f.1 w with u | ⟨_, u, _⟩
        · rw [ei] at u; omega
        · rw [u] at c; exact Rat.lt_irrefl c
      · rcases f.2 w with u | ⟨_, u, _⟩
        · omega
        · rw [u] at c; exact Rat.lt_irrefl c
    · have e : csk (G n) Lf Rt t k = qct (Lf k) := if_neg c
      rw [e]
      refine rtc_qs sq (lnk_root h k (by omega) ?_)
      rcases h k hk with ⟨_, p, q, _, hz, ev⟩ | ⟨l, _⟩
      · rw [ev, hz]; grind
      · exact absurd l c
  refine ⟨csk (G n) Lf Rt t, fun k hk => ⟨(dat k hk).1, turn k hk, (dat k hk).2, fun c => by
    have e : csk (G n) Lf Rt t k = ict (G n) (Lf k) (Rt k) (t k) := if_pos c
    rw [e]
    exact ict_rtc (ht k hk c)⟩, fun c cc ct => ?_, fun i j ij jn => ?_⟩
  · rcases lnk_down h h0 cc n 0 (by omega) ct with ⟨k, k1, k2, k3⟩ | w
    · refine ⟨k, k1, funext fun x => ?_⟩
      unfold csk
      rw [if_neg (by rw [k2]; exact Rat.lt_irrefl)]
      exact cut_q cc k3 x
    · obtain ⟨k, k1, k2, k3, k4⟩ := hc c cc w
      refine ⟨k, k1, funext fun x => ?_⟩
      unfold csk
      rw [if_pos k2]
      exact ict_u (ht k k1 k2) cc (by rw [k3]; decide) (by rw [k4]; decide) w x
  · -- rising
    have o := od i j ij jn
    obtain ⟨ci, hi'⟩ := dat i (by omega)
    obtain ⟨cj, hj'⟩ := dat j jn
    rcases hi' with ⟨e, z⟩ | ⟨l, z1, z2⟩
    · rcases hj' with ⟨e', z'⟩ | ⟨l', z1', z2'⟩
      · -- two fractions: not the same, for no root is double
        rw [e] at o
        rcases Rat.le_iff_lt_or_eq.1 o with q | q
        · exact ⟨Lf i, Or.inr (Or.inl ⟨z, cj.2.1 _ _ q (by rw [z']; decide)⟩)⟩
        · exfalso
          obtain ⟨p, q0, p1, p2, p3⟩ : ∃ p q : Int, 0 < q ∧ (q : Rat) * Lf i = p ∧ ∀ x : Rat, pev (G i) x = (q * x - p) * pev (G (i + 1)) x := by
            rcases h i (by omega) with ⟨_, w⟩ | ⟨w, _⟩
            · exact w
            · rw [e] at w; exact absurd w Rat.lt_irrefl
          have gj : pev (G j) (Lf j) = 0 := by
            rcases h j jn with ⟨_, p', q', _, hz', ev'⟩ | ⟨w, _⟩
            · rw [ev', hz']; grind
            · rw [e'] at w; exact absurd w Rat.lt_irrefl
          have up : ∀ (d k : Nat), k + d = j → i + 1 ≤ k → pev (G k) (Lf j) = 0 := fun d => by
            induction d with
            | zero => intro k e9 _; rw [show k = j by omega]; exact gj
            | succ d ih =>
              intro k e9 k1
              have := ih (k + 1) (by omega) (by omega)
              rcases h k (by omega) with ⟨_, p', q', _, _, ev'⟩ | ⟨_, ev'⟩
              · rw [ev', this, Rat.mul_zero]
              · rw [ev']; exact this
          have g1 := up (j - (i + 1)) (i + 1) (by omega) (Nat.le_refl _)
          -- a double root of G i divides G 0
          have sG : ∀ k, k ≤ n → sqf (G k) := fun k => by
            induction k with
            | zero => intro _; exact sq
            | succ k ih =>
              intro hk
              have := ih (by omega)
              rcases h k (by omega) with ⟨_, p', q', q0', _, ev'⟩ | ⟨_, ev'⟩
              · exact sqf_dv ⟨1, [-p', q'], by decide, fun x => by rw [rat_i1, Rat.one_mul, ev' x, lnf_ev]; exact Rat.mul_comm _ _⟩ this
              · exact sqf_dv ⟨1, [1], by decide, fun x => by rw [rat_i1, Rat.one_mul, ev' x]; show _ = _ * (((1 : Int) : Rat) + x * 0); rw [rat_i1]; grind⟩ this
          obtain ⟨c9, u, v, c0, hb⟩ := sG i (by omega)
          have b := hb (Lf i)
          have dv : pev (pdl (G i)) (Lf i) = (q0 : Rat) * pev (G (i + 1)) (Lf i) := by
            have e1 := pdl_mul [-p, q0] (G (i + 1)) (Lf i)
            have e2 : pev (pdl (pmul [-p, q0] (G (i + 1)))) (Lf i) = pev (pdl (G i)) (Lf i) := pdl_co (pev_inj (fun x => by rw [pmul_ev, lnf_ev, p3 x])) (Lf i)
            rw [e2, lnf_ev, p2] at e1
            have e3 : pev (pdl [-p, q0]) (Lf i) = (q0 : Rat) := by
              rw [pdl_cons]
              show ((q0 : Rat) + Lf i * 0) + Lf i * pev (pdl [q0]) (Lf i) = _
              rw [show pdl [q0] = [] from rfl]
              show ((q0 : Rat) + Lf i * 0) + Lf i * 0 = _
              grind
            rw [e3] at e1
            rw [e1]
            grind
          rw [dv, p3, p2] at b
          rw [← q] at g1
          rw [g1] at b
          have : (c9 : Rat) = 0 := by grind
          exact c0 (Rat.intCast_eq_zero_iff.1 this)
      · rw [e] at o
        exact ⟨Lf i, Or.inr (Or.inl ⟨z, cut_le1 cj z1' o⟩)⟩
    · rcases hj' with ⟨e', z'⟩ | ⟨l', z1', z2'⟩
      · exact ⟨Lf j, Or.inr (Or.inr ⟨cut_ge1 ci z2 o, z'⟩)⟩
      · exact ⟨Lf j, Or.inl ⟨cut_ge1 ci z2 o, z1'⟩⟩
