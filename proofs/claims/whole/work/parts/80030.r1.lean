/-! THE REFERENCE'S READER BY VALUE -/
def rtx (tx : Nat → Int) (n : Nat) (s : im_S) : Prop := s.1 582 1 = (n : Int) ∧ n ≤ 400 ∧ (∀ k, k < n → s.2 583 k = tx k) ∧ ∀ k, k < n → 32 ≤ tx k ∧ tx k ≤ 126
/-- good, and the next sign is at j -/
def rgs (tx : Nat → Int) (n : Nat) (s : im_S) (j : Nat) : Prop := s.1 582 2 = 0 ∧ ∃ i : Nat, s.1 582 4 = (i : Int) ∧ skp tx n i j
def rbd (s : im_S) (e : Int × Int) : Prop := s.1 582 2 = e.1 ∧ e.1 ≠ 0 ∧ s.1 582 3 = e.2
def pkf (s s' : im_S) : Prop := gfr (fun c f => c = 582 ∧ 2 ≤ f ∧ f ≤ 4) (fun _ => False) s s'
theorem pkf_refl (s : im_S) : pkf s s := gfr_refl _ _ _
theorem pkf_trans {s s' s2 : im_S} (h : pkf s s') (h2 : pkf s' s2) : pkf s s2 := gfr_trans h h2
theorem pkf_pf {s s' : im_S} {f : Nat} {x : Int} (h : pkf s s') (h1 : 2 ≤ f) (h2 : f ≤ 4) : pkf s (cpf s' 582 f x) := gfr_pf h ⟨rfl, h1, h2⟩
theorem rtx_fr {F : Nat → Nat → Prop} {R : Nat → Prop} {tx : Nat → Int} {n : Nat} {s s' : im_S} (h : rtx tx n s) (f : gfr F R s s') (h1 : ¬ F 582 1) (h2 : ¬ R 583) : rtx tx n s' := by
  obtain ⟨a, b, c, d⟩ := h
  exact ⟨by rw [f.1 _ _ h1]; exact a, b, fun k hk => by rw [f.2 _ h2]; exact c k hk, d⟩
theorem rtx_pk {tx : Nat → Int} {n : Nat} {s s' : im_S} (h : rtx tx n s) (f : pkf s s') : rtx tx n s' := rtx_fr h f (by omega) (fun z => z)
def nxr (tx : Nat → Int) (n j : Nat) : Int := if j < n then tx j else -1
theorem nxr_c {tx : Nat → Int} {n j : Nat} {x : Int} (hx : x ≠ 0) (hx2 : x ≠ -1) : nxr tx n j = x ↔ nxc tx n j = x := by
  unfold nxr nxc
  split
  · exact Iff.rfl
  · exact ⟨fun z => absurd z.symm hx2, fun z => absurd z.symm hx⟩
theorem skp_u {tx : Nat → Int} {n i j j' : Nat} (h : skp tx n i j) (h' : skp tx n i j') : j = j' := by
  obtain ⟨a1, a2, a3, a4⟩ := h
  obtain ⟨b1, b2, b3, b4⟩ := h'
  rcases Nat.lt_trichotomy j j' with c | c | c
  · exact absurd (b3 j a1 c) (a4 (by omega))
  · exact c
  · exact absurd (a3 j' b1 c) (b4 (by omega))
theorem skp_s {tx : Nat → Int} {n i j : Nat} (h : skp tx n i j) : skp tx n j j := ⟨Nat.le_refl _, h.2.1, fun k h1 h2 => by omega, h.2.2.2⟩
theorem peek_r {tx : Nat → Int} {n j : Nat} {s : im_S} {Q : Int → im_S → Prop} (hc : rtx tx n s) (h : ∃ i : Nat, s.1 582 4 = (i : Int) ∧ skp tx n i j) (hQ : ∀ s', s'.1 582 4 = (j : Int) → s'.1 582 2 = s.1 582 2 → s'.1 582 3 = s.1 582 3 → pkf s s' → Q (nxr tx n j) s') : C_peek10 s Q := by
  obtain ⟨i, hi, sk⟩ := h
  have n400 := hc.2.1
  have jn := sk.2.1
  refine ⟨fun a => pkf s a ∧ a.1 582 2 = s.1 582 2 ∧ a.1 582 3 = s.1 582 3 ∧ ∃ k : Nat, a.1 582 4 = (k : Int) ∧ i ≤ k ∧ k ≤ j, ⟨pkf_refl _, rfl, rfl, i, hi, Nat.le_refl _, sk.1⟩, fun a ⟨f, a2, a3, k, ak, ik, kj⟩ => ?_⟩
  have ca := rtx_pk hc f
  have e38 : k = j → C_peek10_38 a Q := fun e => by
    subst e
    intro v ev
    rw [show cgf a 582 1 = (n : Int) from ca.1, show cgf a 582 4 = (k : Int) from ak] at ev
    have : v = nxr tx n k := by
      unfold nxr
      by_cases l : k < n
      · rw [if_neg (by omega)] at ev
        rw [if_pos l, ev]
        show a.2 583 ((k : Nat) : Int).toNat = _
        rw [Int.toNat_natCast]; exact ca.2.2.1 k l
      · rw [if_pos (by omega)] at ev
        rw [if_neg l]; exact ev
    rw [this]
    exact hQ a ak a2 a3 f
  unfold C_peek10_0
  dsimp only
  rw [show cgf a 582 1 = (n : Int) from ca.1, show cgf a 582 4 = (k : Int) from ak]
  refine ⟨fun c => e38 (by omega), fun c _ => ?_⟩
  have l : k < n := by omega
  rw [show cga a 583 (k : Int) = tx k by show a.2 583 ((k : Nat) : Int).toNat = _; rw [Int.toNat_natCast]; exact ca.2.2.1 k l]
  refine ⟨fun z => e38 ?_, fun z s1 e1 => ?_⟩
  · by_cases q : k = j
    · exact q
    · exact absurd (sk.2.2.1 k ik (by omega)) z
  · subst e1
    have kj' : k ≠ j := fun q => by subst q; exact sk.2.2.2 l z
    exact ⟨pkf_pf f (by omega) (by omega), by rw [cpf_ne (by omega)]; exact a2, by rw [cpf_ne (by omega)]; exact a3, k + 1, by rw [cpf_same, w32s (by omega)], by omega, by omega⟩
theorem good_r {s : im_S} {Q : Int → im_S → Prop} (h1 : s.1 582 2 = 0 → Q 1 s) (h0 : s.1 582 2 ≠ 0 → Q 0 s) : C_good10 s Q := by
  intro v ev
  rw [show cgf s 582 2 = s.1 582 2 from rfl] at ev
  by_cases c : s.1 582 2 = 0
  · rw [if_neg (fun k => k c)] at ev; rw [ev]; exact h1 c
  · rw [if_pos c] at ev; rw [ev]; exact h0 c
theorem fail_r {l1 l2 : Int} {s : im_S} {Q : im_S → Prop} (h0 : s.1 582 2 = 0) (h1 : l1 ≠ 0) (hQ : ∀ s', rbd s' (l1, l2) → pkf s s' → Q s') : C_fail10 l1 l2 s Q := by
  refine ⟨fun c => absurd h0 c, fun _ s1 e1 s2 e2 => ?_⟩
  subst e2; subst e1
  exact hQ _ ⟨by rw [cpf_ne (by omega), cpf_same], h1, cpf_same _ _ _ _⟩ (pkf_pf (pkf_pf (pkf_refl _) (by omega) (by omega)) (by omega) (by omega))
theorem fail_rb {l1 l2 : Int} {s : im_S} {Q : im_S → Prop} (h0 : s.1 582 2 ≠ 0) (hQ : Q s) : C_fail10 l1 l2 s Q := ⟨fun _ => hQ, fun c => absurd c h0⟩
theorem isDigit_r {x : Int} {s : im_S} {Q : Int → im_S → Prop} (h1 : dgt x → Q 1 s) (h2 : ¬ dgt x → Q 0 s) : C_isDigit10 x s Q := by
  intro v e
  subst e
  unfold dgt at h1 h2
  split
  · exact h2 (by omega)
  · split
    · exact h2 (by omega)
    · exact h1 (by omega)
theorem isToken_r {x : Int} {s : im_S} {Q : Int → im_S → Prop} (h1 : tok x → Q 1 s) (h0 : ¬ tok x → Q 0 s) : C_isToken10 x s Q := by
  refine isDigit_r (fun d => ⟨fun _ => h1 (Or.inl d), fun z => absurd z (by decide)⟩) (fun d => ⟨fun z => absurd rfl z, fun _ => ?_⟩)
  refine ⟨fun e => h1 (by unfold tok; omega), fun c1 => ⟨fun e => h1 (by unfold tok; omega), fun c2 => ⟨fun e => h1 (by unfold tok; omega), fun c3 => ⟨fun e => h1 (by unfold tok; omega), fun c4 => ⟨fun e => h1 (by unfold tok; omega), fun c5 => ⟨fun e => h1 (by unfold tok; omega), fun c6 => ⟨fun e => h1 (by unfold tok; omega), fun c7 => ⟨fun e => h1 (by unfold tok; omega), fun c8 v ev => ?_⟩⟩⟩⟩⟩⟩⟩⟩
  show Q v s
  by_cases q : x = 45 ∨ x = 43 ∨ x = 42 ∨ x = 94 ∨ x = 120 ∨ x = 40 ∨ x = 41
  · have e1 : v = 1 := by
      rcases q with q | q | q | q | q | q | q <;> subst q <;> exact ev
    rw [e1]
    exact h1 (by unfold tok; omega)
  · have e0 : v = 0 := by
      rw [if_neg (by omega), if_neg (by omega), if_neg (by omega), if_neg (by omega), if_neg (by omega), if_neg (by omega), if_pos (by omega)] at ev
      exact ev
    rw [e0]
    exact h0 (fun t => by
      unfold tok at t
      rcases t with t | t
      · exact d t
      · omega)
/-- cannot, from a good state -/
theorem cannot_r {tx : Nat → Int} {n j : Nat} {s : im_S} {Q : im_S → Prop} (hc : rtx tx n s) (h : rgs tx n s j) (h2 : (j < n → tok (tx j)) → ∀ s', rbd s' (2, (j : Int)) → pkf s s' → Q s') (h1 : j < n → ¬ tok (tx j) → ∀ s', rbd s' (1, (j : Int)) → pkf s s' → Q s') : C_cannot10 s Q := by
  refine peek_r hc h.2 (fun s1 a1 a2 a3 f1 => ?_)
  have g0 : s1.1 582 2 = 0 := a2.trans h.1
  have two : (j < n → tok (tx j)) → C_cannot10_23 2 s1 Q := fun t => by
    unfold C_cannot10_23
    rw [show cgf s1 582 4 = (j : Int) from a1]
    exact fail_r g0 (by decide) (fun s2 b2 f2 => h2 t s2 b2 (pkf_trans f1 f2))
  by_cases l : j < n
  · have e : nxr tx n j = tx j := by unfold nxr; rw [if_pos l]
    have b := hc.2.2.2 j l
    rw [e]
    refine ⟨fun z => by omega, fun _ => isToken_r (fun t v ev => ?_) (fun t v ev => ?_)⟩
    · rw [if_neg (by decide)] at ev
      rw [ev]
      exact two (fun _ => t)
    · rw [if_pos rfl] at ev
      rw [ev]
      unfold C_cannot10_23
      rw [show cgf s1 582 4 = (j : Int) from a1]
      exact fail_r g0 (by decide) (fun s2 b2 f2 => h1 l t s2 b2 (pkf_trans f1 f2))
  · have e : nxr tx n j = -1 := by unfold nxr; rw [if_neg l]
    rw [e]
    exact ⟨fun _ => two (fun q => absurd q l), fun z => absurd rfl z⟩
/-- look, from a good state: what adv says of it -/
def lkO (tx : Nat → Int) (n : Nat) (s' : im_S) : ou Unit → Prop
  | .inr (j, _) => rgs tx n s' j ∧ s'.1 582 4 = (j : Int)
  | .inl e => rbd s' e
theorem look_r {tx : Nat → Int} {n i : Nat} {r : ou Unit} {s : im_S} {Q : im_S → Prop} (hc : rtx tx n s) (h0 : s.1 582 2 = 0) (hi : s.1 582 4 = (i : Int)) (ha : adv tx n i r) (hQ : ∀ s', lkO tx n s' r → pkf s s' → Q s') : C_look10 s Q := by
  obtain ⟨j, sk, hr⟩ := ha
  refine peek_r hc ⟨i, hi, sk⟩ (fun s1 a1 a2 a3 f1 => ?_)
  have g0 : s1.1 582 2 = 0 := a2.trans h0
  rcases hr with ⟨e, t⟩ | ⟨e, l, t⟩
  · subst e
    have fin : Q s1 := hQ s1 ⟨⟨g0, j, a1, skp_s sk⟩, a1⟩ f1
    by_cases l : j < n
    · have e : nxr tx n j = tx j := by unfold nxr; rw [if_pos l]
      rw [e]
      exact ⟨fun _ => fin, fun _ => isToken_r (fun _ => ⟨fun _ => fin, fun z => absurd z (by decide)⟩) (fun q => absurd (t l) q)⟩
    · have e : nxr tx n j = -1 := by unfold nxr; rw [if_neg l]
      rw [e]
      exact ⟨fun _ => fin, fun z => absurd rfl z⟩
  · subst e
    have e : nxr tx n j = tx j := by unfold nxr; rw [if_pos l]
    have b := hc.2.2.2 j l
    rw [e]
    refine ⟨fun z => by omega, fun _ => isToken_r (fun q => absurd q t) (fun _ => ⟨fun z => absurd rfl z, fun _ => ?_⟩)⟩
    rw [show cgf s1 582 4 = (j : Int) from a1]
    exact fail_r g0 (by decide) (fun s2 b2 f2 => hQ s2 b2 (pkf_trans f1 f2))
