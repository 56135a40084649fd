/-! look, step, expect, readNumber by value -/
theorem index2_v {x : Int} {s : im_S} {Q : Int → im_S → Prop} (h0 : 0 ≤ x) (h1 : x ≤ 126) (hd : ¬ dgt x) (hQ1 : tok x → ∀ z, 0 ≤ z → Q z s) (hQ2 : ¬ tok x → Q (-1) s) : C_J0_indexOf_0f7a4_0_2v x s Q := by
  intro v e
  rw [if_neg (by decide), if_neg (by decide)] at e
  subst e
  refine ⟨fun c => absurd c (by decide), fun _ w ew v2 e2 => ?_⟩
  rw [if_neg (by decide)] at ew
  rw [if_neg (by omega), if_neg (by omega)] at e2
  subst e2
  subst ew
  have e15 : shrI 15 0 = 15 := by decide +kernel
  rw [e15]
  refine ⟨fun _ => max_J (min_J ⟨fun _ => ?_, fun c => absurd (show max (0 : Int) 0 < min 15 15 by decide) c⟩), fun c => absurd c (by decide)⟩
  refine ⟨fun a => a.2 = s ∧ ∃ i : Nat, a.1 = (i : Int) ∧ i ≤ 15 ∧ ∀ k : Nat, k < i → txv 3 (k : Int) ≠ x, ⟨rfl, 0, rfl, by omega, fun k hk => by omega⟩, ?_⟩
  rintro ⟨y, s1⟩ ⟨e1, i, ei, i15, hi⟩
  dsimp only at e1 ei
  subst e1
  subst ei
  rw [c8_id h0 h1]
  refine ⟨fun c => hQ2 (tok_15 (fun k hk => hi k ?_) hd), fun c => ⟨fun z => ⟨rfl, i + 1, w32s (by omega), ?_, fun k hk => ?_⟩, fun z => hQ1 (tok_of i ?_ z) _ (by omega)⟩⟩
  · have : (15 : Int) ≤ i := c
    omega
  · have : ¬ (15 : Int) ≤ i := c
    omega
  · by_cases ck : k = i
    · rw [ck]; exact z
    · exact hi k (by omega)
  · have : ¬ (15 : Int) ≤ i := c
    omega
theorem look_v {tx : Nat → Int} {n i : Nat} {s : im_S} {Q : im_S → Prop} (hc : ctx tx n s) (h0 : s.1 2 4 = 0) (hi : s.1 2 2 = (i : Int)) (hin : i ≤ n) (hQ : ∀ s' r, adv tx n i r → lkR tx n s' r → lkf s s' → Q s') : C_look7v s Q := by
  have n400 := hc.2.1
  refine ⟨fun a => lkf s a ∧ a.1 2 4 = 0 ∧ ∃ j : Nat, a.1 2 2 = (j : Int) ∧ i ≤ j ∧ j ≤ n ∧ ∀ k, i ≤ k → k < j → tx k = 32, ⟨lkf_refl _, h0, i, hi, Nat.le_refl _, hin, fun k h1 h2 => by omega⟩, fun a ⟨f, a0, j, aj, ij, jn, bl⟩ => ?_⟩
  have ca := ctx_lk hc f
  have e63 : (j < n → tx j ≠ 32) → C_look7v_63 (nxc tx n j) a Q := fun nb s1 e1 => by
    have f1 : lkf s s1 := by subst e1; exact lkf_pf f (by omega) (by omega)
    have k1 : s1.1 2 3 = nxc tx n j := by subst e1; exact cpf_same _ _ _ _
    have k2 : s1.1 2 2 = (j : Int) := by subst e1; rw [cpf_ne (by omega)]; exact aj
    have k4 : s1.1 2 4 = 0 := by subst e1; rw [cpf_ne (by omega)]; exact a0
    have sk : skp tx n i j := ⟨ij, jn, bl, nb⟩
    have fin : (j < n → tok (tx j)) → Q s1 := fun t => hQ s1 (.inr (j, ())) ⟨j, sk, Or.inl ⟨rfl, t⟩⟩ ⟨k4, k2, k1, jn⟩ f1
    rw [show cgf s1 2 3 = nxc tx n j from k1]
    refine ⟨fun z => fin (fun l => ?_), fun z => ?_⟩
    · have := hc.2.2.2 j l
      unfold nxc at z
      rw [if_pos l] at z
      omega
    · have l : j < n := by
        unfold nxc at z
        by_cases l : j < n
        · exact l
        · rw [if_neg l] at z; exact absurd rfl z
      have b := hc.2.2.2 j l
      have e : nxc tx n j = tx j := by unfold nxc; rw [if_pos l]
      rw [e]
      refine isDigit_g (fun dd => ⟨fun _ => fin (fun _ => Or.inl dd), fun z => absurd z (by decide)⟩) (fun dd => ⟨fun z => absurd rfl z, fun _ => ?_⟩)
      rw [show cgf s1 2 3 = nxc tx n j from k1, e, c16_id (by omega) b.2]
      refine index2_v (by omega) b.2 dd (fun t z z0 => ⟨fun _ => fin (fun _ => t), fun q => absurd z0 q⟩) (fun t => ⟨fun q => absurd q (by decide), fun _ => ?_⟩)
      rw [show cgf s1 2 2 = (j : Int) from k2]
      refine fail_g k4 (by decide) (fun s2 b2 f2 => ?_)
      exact hQ s2 (.inl (1, (j : Int))) ⟨j, sk, Or.inr ⟨rfl, l, t⟩⟩ b2 (lkf_trans f1 f2)
  have e38 : (j < n → tx j ≠ 32) → C_look7v_38 a Q := fun nb => by
    have := e63 nb
    unfold nxc at this
    unfold C_look7v_38
    rw [show cgf a 2 1 = (n : Int) from ca.1, show cgf a 2 2 = (j : Int) from aj]
    refine ⟨fun c => ?_, fun c => ?_⟩
    · rw [if_neg (by omega)] at this; exact this
    · rw [if_pos (by omega)] at this
      rw [show cga a 3 (j : Int) = tx j by show a.2 3 ((j : Nat) : Int).toNat = _; rw [Int.toNat_natCast]; exact ca.2.2.1 j (by omega)]
      exact this
  unfold C_look7v_0
  dsimp only
  rw [show cgf a 2 1 = (n : Int) from ca.1, show cgf a 2 2 = (j : Int) from aj]
  refine ⟨fun c => e38 (fun l => by omega), fun c => ?_⟩
  have l : j < n := by omega
  rw [show cga a 3 (j : Int) = tx j by show a.2 3 ((j : Nat) : Int).toNat = _; rw [Int.toNat_natCast]; exact ca.2.2.1 j l]
  refine ⟨fun z => e38 (fun _ => z), fun z s1 e1 => ?_⟩
  subst e1
  refine ⟨lkf_pf f (by omega) (by omega), by rw [cpf_ne (by omega)]; exact a0, j + 1, ?_, by omega, by omega, fun k h1 h2 => ?_⟩
  · rw [cpf_same, w32s (by omega)]
  · by_cases ck : k = j
    · rw [ck]; exact z
    · exact bl k h1 (by omega)
theorem step_v {tx : Nat → Int} {n j : Nat} {s : im_S} {Q : im_S → Prop} (hc : ctx tx n s) (h : gdS tx n s j) (hj : j < n) (hQ : ∀ s' r, adv tx n (j + 1) r → lkR tx n s' r → lkf s s' → Q s') : C_step7v s Q := by
  obtain ⟨h0, h1, h2, h3⟩ := h
  have n400 := hc.2.1
  refine ⟨fun c => absurd h0 c, fun _ s1 e1 => ?_⟩
  have f1 : lkf s s1 := by subst e1; exact lkf_pf (lkf_refl _) (by omega) (by omega)
  refine look_v (i := j + 1) (ctx_lk hc f1) (by subst e1; rw [cpf_ne (by omega)]; exact h0) ?_ (by omega) (fun s2 r a b f2 => hQ s2 r a b (lkf_trans f1 f2))
  subst e1
  rw [cpf_same, show cgf s 2 2 = (j : Int) from h1, w32s (by omega)]
theorem step_b {s : im_S} {e : Int × Int} {Q : im_S → Prop} (h : bdS s e) (hQ : ∀ s', bdS s' e → Q s') : C_step7v s Q := ⟨fun _ => hQ _ h, fun c => absurd (h.1.symm.trans c) h.2.1⟩
theorem nxc_lt {tx : Nat → Int} {n j : Nat} (h : nxc tx n j ≠ 0) : j < n := by
  unfold nxc at h
  by_cases l : j < n
  · exact l
  · rw [if_neg l] at h; exact absurd rfl h
theorem expect_v {tx : Nat → Int} {n j : Nat} {x : Int} {s : im_S} {Q : im_S → Prop} (hc : ctx tx n s) (h : gdS tx n s j) (hx : x ≠ 0) (h1 : nxc tx n j = x → ∀ s' r, adv tx n (j + 1) r → lkR tx n s' r → lkf s s' → Q s') (h2 : nxc tx n j ≠ x → ∀ s', bdS s' (2, (j : Int)) → Q s') : C_expect7v x s Q := by
  refine ⟨fun c => ?_, fun c => ?_⟩
  · rw [show cgf s 2 2 = (j : Int) from h.2.1]
    exact fail_g h.1 (by decide) (fun s1 b1 _ => h2 (fun z => c (h.2.2.1.trans z)) s1 b1)
  · have e : nxc tx n j = x := h.2.2.1.symm.trans c
    exact step_v hc h (nxc_lt (by rw [e]; exact hx)) (fun s1 r a b f => h1 e s1 r a b f)
theorem expect_b {x : Int} {s : im_S} {e : Int × Int} {Q : im_S → Prop} (h : bdS s e) (hQ : ∀ s', bdS s' e → Q s') : C_expect7v x s Q := ⟨fun _ => fail_bd h hQ, fun _ => step_b h hQ⟩
theorem readNumber_b {s : im_S} {e : Int × Int} {Q : Int → im_S → Prop} (h : bdS s e) (hQ : ∀ z s', bdS s' e → Q z s') : C_readNumber7v s Q := by
  refine isDigit_g (fun d => ?_) (fun _ => ⟨fun z => absurd rfl z, fun _ => fail_bd h (fun s1 h1 => hQ _ _ h1)⟩)
  exact absurd d.1 (by rw [show cgf s 2 3 = 1 from h.2.2.2]; decide)
