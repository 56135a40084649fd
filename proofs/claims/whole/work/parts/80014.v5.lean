/-! numbers -/
theorem dgs_b {tx : Nat → Int} {n j : Nat} : ∀ {t : Nat} {v : Int}, dgs tx n j t v → 0 ≤ v ∧ v < 10 ^ t
  | 0, v, h => by
    have h : v = 0 := h
    subst h
    decide
  | t + 1, v, ⟨w, h, _, ⟨d1, d2⟩, e⟩ => by
    have := dgs_b h
    rw [Int.pow_succ]
    omega
theorem p10_b {t : Nat} (h : t ≤ 6) : (10 : Int) ^ t ≤ 1000000 := by
  have : t = 0 ∨ t = 1 ∨ t = 2 ∨ t = 3 ∨ t = 4 ∨ t = 5 ∨ t = 6 := by omega
  rcases this with q | q | q | q | q | q | q <;> subst q <;> decide
def nmR (tx : Nat → Int) (n : Nat) (z : Int) (s' : im_S) : ou Int → Prop
  | .inl e => bdS s' e
  | .inr (j, v) => gdS tx n s' j ∧ z = v ∧ 0 ≤ v ∧ v ≤ 999999
theorem readNumber_v {tx : Nat → Int} {n j : Nat} {s : im_S} {Q : Int → im_S → Prop} (hc : ctx tx n s) (h : gdS tx n s j) (hd : dgt (nxc tx n j)) (hQ : ∀ z s' r, nmb tx n j r → nmR tx n z s' r → lkf s s' → Q z s') : C_readNumber7v s Q := by
  obtain ⟨h0, h1, h2, h3⟩ := h
  have n400 := hc.2.1
  have jl : j < n := nxc_lt (fun z => by rw [z] at hd; exact absurd hd.1 (by decide))
  have ej : nxc tx n j = tx j := by unfold nxc; rw [if_pos jl]
  refine isDigit_g (fun _ => ⟨fun _ => min_J ?_, fun z => absurd z (by decide)⟩) (fun d => absurd (by rw [show cgf s 2 3 = nxc tx n j from h2]; exact hd) d)
  rw [show cgf s 2 1 = (n : Int) from hc.1, show cgf s 2 2 = (j : Int) from h1, w32_id (by omega) (by omega)]
  refine ⟨fun a => lkf s a.2 ∧ a.2.1 2 4 = 0 ∧ ∃ t : Nat, t ≤ 6 ∧ a.2.1 2 2 = ((j + t : Nat) : Int) ∧ j + t ≤ n ∧ dgs tx n j t a.1, ⟨lkf_refl _, h0, 0, by omega, h1, by omega, rfl⟩, ?_⟩
  rintro ⟨x, s1⟩ ⟨f, a0, t, t6, at1, jn, dg1⟩
  dsimp only at f a0 at1 dg1 ⊢
  have c1 := ctx_lk hc f
  have xb := dgs_b dg1
  have pb := p10_b t6
  have txe : j + t < n → cga s1 3 ((j + t : Nat) : Int) = tx (j + t) := fun l => by
    show s1.2 3 ((j + t : Nat) : Int).toNat = _
    rw [Int.toNat_natCast]; exact c1.2.2.1 _ l
  have e130 : ¬ (j + t < n ∧ dgt (tx (j + t))) → 1 ≤ t → C_readNumber7v_130 x s1 Q := fun nd t1 => look_v c1 a0 at1 jn (fun s2 r ad lk f2 => by
    refine hQ x s2 (r.map id (fun z => (z.1, x))) ⟨t, x, t6, t1, dg1, Or.inr ⟨nd, r, ad, rfl⟩⟩ ?_ (lkf_trans f f2)
    cases r with
    | inl e => exact lk
    | inr z => exact ⟨lk, rfl, xb.1, by omega⟩)
  have e92 : (j + t < n → dgt (tx (j + t)) → t = 6) → 1 ≤ t → C_readNumber7v_92 x s1 Q := fun nd t1 => by
    unfold C_readNumber7v_92
    rw [show cgf s1 2 1 = (n : Int) from c1.1, show cgf s1 2 2 = ((j + t : Nat) : Int) from at1]
    refine ⟨fun c => e130 (fun z => by omega) t1, fun c => ?_⟩
    have l : j + t < n := by omega
    rw [txe l]
    refine isDigit_g (fun d => ⟨fun z => absurd z (by decide), fun _ => ?_⟩) (fun d => ⟨fun _ => e130 (fun z => d z.2) t1, fun z => absurd rfl z⟩)
    rw [show cgf s1 2 2 = ((j + t : Nat) : Int) from at1]
    have t66 := nd l d
    subst t66
    exact fail_g a0 (by decide) (fun s2 b2 f2 => hQ x s2 (.inl (1, ((j + 6 : Nat) : Int))) ⟨6, x, by omega, by omega, dg1, Or.inl ⟨rfl, l, d, rfl⟩⟩ b2 (lkf_trans f f2))
  unfold C_readNumber7v_38
  rw [show cgf s1 2 2 = ((j + t : Nat) : Int) from at1]
  refine ⟨fun c => e92 (fun l _ => by omega) (by omega), fun c => ?_⟩
  have l : j + t < n := by omega
  have t5 : t < 6 := by omega
  rw [txe l]
  refine isDigit_g (fun d => ⟨fun z => absurd z (by decide), fun _ s2 e2 => ?_⟩) (fun d => ⟨fun _ => e92 (fun _ z => absurd z d) ?_, fun z => absurd rfl z⟩)
  · have tb := hc.2.2.2 _ l
    unfold dgt at d
    have pb5 : (10 : Int) ^ t ≤ 100000 := by
      have : t = 0 ∨ t = 1 ∨ t = 2 ∨ t = 3 ∨ t = 4 ∨ t = 5 := by omega
      rcases this with q | q | q | q | q | q <;> subst q <;> decide
    refine ⟨by subst e2; exact lkf_pf f (by omega) (by omega), by subst e2; rw [cpf_ne (by omega)]; exact a0, t + 1, by omega, ?_, by omega, x, dg1, l, d, ?_⟩
    · subst e2
      rw [cpf_same, show cgf s1 2 2 = ((j + t : Nat) : Int) from at1, w32s (by omega)]
      rfl
    · dsimp only
      rw [show cgf s1 2 2 = ((j + t : Nat) : Int) from at1, txe l, w32_id (x := x * 10) (by omega) (by omega), w32_id (x := tx (j + t) - 48) (by omega) (by omega), w32_id (by omega) (by omega)]
      omega
  · by_cases t0 : t = 0
    · subst t0
      rw [ej] at hd
      exact absurd hd d
    · omega
