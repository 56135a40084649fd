/-! READ OF THE CLASS BY VALUE -/
/-- the outcome of a whole text -/
def RDo (tx : Nat → Int) (n : Nat) (R : ou ats) : Prop := ∃ q, adv tx n 0 q ∧ ((∃ e, q = .inl e ∧ R = .inl e) ∨ ∃ j r4, q = .inr (j, ()) ∧ Tx tx n 4 0 0 j [] r4 ∧ txS tx n R 0 r4)
def fou : ou ats → Int
  | .inl e => e.1
  | .inr _ => 0
def plo : ou ats → Int
  | .inl e => e.2
  | .inr _ => -2
def kno : ou ats → Int
  | .inl _ => 0
  | .inr _ => 1
/-- what read leaves -/
def rdQ (tx : Nat → Int) (n : Nat) (z : Int) (s' : im_S) : Prop := ∃ R, RDo tx n R ∧ z = fou R ∧ (∀ e, R = .inl e → e.1 ≠ 0 ∧ s'.1 2 5 = e.2) ∧ ∀ j A, R = .inr (j, A) → tat s' A
theorem read_v {tx : Nat → Int} {n : Nat} {l1 : Int} {s : im_S} {Q : Int → im_S → Prop} (hl : l1 = (n : Int)) (hn : n ≤ 400) (h3 : gln 3 = 400) (ht : ∀ k, k < n → s.2 3 k = tx k) (hr : ∀ k, k < n → 32 ≤ tx k ∧ tx k ≤ 126) (hQ : ∀ z s', rdQ tx n z s' → Q z s') : C_read7v l1 s Q := by
  refine min_J (fun s1 e1 s2 e2 s3 e3 s4 e4 s5 e5 s6 e6 => ?_)
  have f2 : s6.2 = s.2 := by subst e6; subst e5; subst e4; subst e3; subst e2; subst e1; rfl
  have a1 : s6.1 2 1 = (n : Int) := by
    subst e6; subst e5; subst e4; subst e3; subst e2; subst e1
    rw [cpf_ne (by omega), cpf_ne (by omega), cpf_ne (by omega), cpf_ne (by omega), cpf_ne (by omega), cpf_same]
    omega
  have a2 : s6.1 2 2 = ((0 : Nat) : Int) := by
    subst e6; subst e5; subst e4; subst e3; subst e2
    rw [cpf_ne (by omega), cpf_ne (by omega), cpf_ne (by omega), cpf_ne (by omega), cpf_same]; rfl
  have a4 : s6.1 2 4 = 0 := by
    subst e6; subst e5; subst e4; subst e3
    rw [cpf_ne (by omega), cpf_ne (by omega), cpf_ne (by omega), cpf_same]
  have a11 : s6.1 2 11 = 0 := by
    subst e6; subst e5
    rw [cpf_ne (by omega), cpf_same]
  have hc : ctx tx n s6 := ⟨a1, hn, by rw [f2]; exact ht, hr⟩
  refine look_v hc a4 a2 (by omega) (fun s7 q aq lk f7 => ?_)
  have fin : ∀ e s', bdS s' e → RDo tx n (.inl e) → Q (s'.1 2 4) s' := fun e s' b g => hQ _ _ ⟨.inl e, g, b.1, fun e' ee => by cases ee; exact ⟨b.2.1, b.2.2.1⟩, fun j A ee => by cases ee⟩
  have b64 : ∀ e s', bdS s' e → RDo tx n (.inl e) → ((cgf s' 2 3 = 0 → C_read7v_64 s' Q) ∧ (¬ (cgf s' 2 3 = 0) → C_fail7 2 (cgf s' 2 2) s' (fun s17 => C_read7v_64 s17 Q))) := fun e s' b g => ⟨fun _ => fin e s' b g, fun _ => fail_bd b (fun s'' b' => fin e s'' b' g)⟩
  cases q with
  | inl e =>
    exact CVt_b (c := 4) (l1 := 0) (show bdS s7 e from lk) (fun s8 b8 => b64 e s8 b8 ⟨.inl e, aq, Or.inl ⟨e, rfl, rfl⟩⟩)
  | inr z =>
    obtain ⟨j, u⟩ := z
    have hg : gdS tx n s7 j := lk
    have A7 : tat s7 [] := ⟨by rw [f7.1 _ _ (by omega)]; exact a11, by simp, fun i p w e => by cases e⟩
    show CVt 4 ((0 : Nat) : Int) s7 _
    have hc7 : ctx tx n s7 := ctx_vf hc (vfr_lk (a := 0) f7)
    refine CVt_g hc7 hg A7 (by omega) (fun s8 r g tc => ?_)
    cases r with
    | inl e => exact b64 e s8 tc ⟨.inr (j, u), aq, Or.inr ⟨j, _, rfl, g, rfl⟩⟩
    | inr z =>
      obtain ⟨j2, B⟩ := z
      obtain ⟨g8, c8, t8, _⟩ := tc
      refine ⟨fun z0 => ?_, fun z0 => fail_g g8.1 (by omega) (fun s9 b9 f9 => ?_)⟩
      · have e0 : nxc tx n j2 = 0 := by rw [← g8.2.2.1]; exact z0
        exact hQ _ _ ⟨.inr (j2, B), ⟨.inr (j, u), aq, Or.inr ⟨j, _, rfl, g, Or.inl ⟨e0, rfl⟩⟩⟩, g8.1, (fun e ee => by cases ee), fun j' A ee => by cases ee; exact t8⟩
      · have e0 : nxc tx n j2 ≠ 0 := by rw [← g8.2.2.1]; exact z0
        have ej : cgf s8 2 2 = (j2 : Int) := g8.2.1
        rw [ej] at b9
        exact fin (2, (j2 : Int)) s9 b9 ⟨.inr (j, u), aq, Or.inr ⟨j, _, rfl, g, Or.inr ⟨e0, rfl⟩⟩⟩
def C_read7w (l1 : Int) (s : im_S) (Q : Int → im_S → Prop) : Prop := ∃ Q1 Q2, C_read7 l1 s Q1 ∧ C_read7v l1 s Q2 ∧ ∀ z s', Q1 z s' → Q2 z s' → Q z s'
theorem c_read7w (L : Nat) (ys : Nat → Int32) (d : Nat) (s : im_S) (hv : jI s) (l1 : Int) (l1r : iR l1) (Q : Int → im_S → Prop) (hW : C_read7w l1 s Q) : pcI L ys 0 d 191 [(2, ((2 : Nat) : Int)), (0, l1)] s (fun z9 s9 => jI s9 ∧ iR z9 ∧ Q z9 s9) := fun res hr => by
  obtain ⟨Q1, Q2, h1, h2, h3⟩ := hW
  obtain ⟨z, e, j, i, q⟩ := c_read7 L ys d s hv l1 l1r Q1 h1 res hr
  obtain ⟨z', e', _, _, q'⟩ := c_read7v L ys d s hv l1 l1r Q2 h2 res hr
  rw [e] at e'
  cases e'
  exact ⟨z, e, j, i, h3 _ _ q q'⟩
