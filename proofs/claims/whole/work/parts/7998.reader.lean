/-! THE READER keeps its promise, at every depth -/
theorem index4_k {x : Int} {s : im_S} {Q : Int → im_S → Prop} (hQ : ∀ z, Q z s) : C_J0_indexOf_0f7a4_0_4 x s Q := by
  intro v e
  rw [if_neg (by decide), if_neg (by decide)] at e
  subst e
  refine ⟨fun c => absurd c (by decide), fun _ w ew v2 e2 => ⟨fun _ => max_J (min_J ⟨fun _ => ?_, fun _ => hQ _⟩), fun _ => hQ _⟩⟩
  refine ⟨fun a => a.2 = s, rfl, ?_⟩
  rintro ⟨y, s1⟩ e1
  dsimp only at e1
  subst e1
  exact ⟨fun _ => hQ _, fun _ z _ => ⟨fun _ => rfl, fun _ => hQ _⟩⟩
theorem CK_k {s0 s : im_S} {Q : im_S → Prop} (h : RK s0 s) (hQ : ∀ s', RK s0 s' → Q s') : CK s Q := ⟨s0, h, hQ⟩
theorem readText_k {l1 : Int} {s : im_S} {Q : im_S → Prop} (hC : CK s Q) : C_readText7 l1 s Q := by
  obtain ⟨s0, h, hQ⟩ := hC
  refine CK_k h (fun s1 h1 => ⟨fun a => RK s0 a.2, h1, ?_⟩)
  rintro ⟨x, s2⟩ h2
  dsimp only at h2 ⊢
  exact ⟨fun _ => hQ _ h2, fun _ => ⟨fun _ => hQ _ h2, fun _ => step_k h2 (fun s3 h3 => CK_k h3 (fun s4 h4 => emit_k h4 (fun s5 h5 _ _ => h5)))⟩⟩
theorem readAll_k {l1 : Int} {s : im_S} {Q : im_S → Prop} (hC : CK s Q) : C_readAll7 l1 s Q := by
  obtain ⟨s0, h, hQ⟩ := hC
  refine CK_k h (fun s1 h1 => ⟨fun a => RK s0 a.2, h1, ?_⟩)
  rintro ⟨x, s2⟩ h2
  dsimp only at h2 ⊢
  exact ⟨fun _ => hQ _ h2, fun _ => ⟨fun _ => hQ _ h2, fun _ => step_k h2 (fun s3 h3 => CK_k h3 (fun s4 h4 => emit_k h4 (fun s5 h5 _ _ => h5)))⟩⟩
theorem readOne_k {l1 : Int} {s : im_S} {Q : im_S → Prop} (hC : CK s Q) : C_readOne7 l1 s Q := by
  obtain ⟨s0, h, hQ⟩ := hC
  refine ⟨fun a => RK s0 a.2.2, h, ?_⟩
  rintro ⟨x, y, s2⟩ h2
  dsimp only at h2 ⊢
  have e102 : ∀ s3, RK s0 s3 → C_readOne7_102 x s3 Q := fun s3 h3 => ⟨fun _ => hQ _ h3, fun _ => emit_k h3 (fun s5 h5 _ _ => hQ _ h5)⟩
  have e51 : C_readOne7_51 l1 x s2 Q := ⟨fun _ => ⟨fun _ => step_k h2 (fun s3 h3 => CK_k h3 (fun s4 h4 => expect_k h4 (fun s5 h5 => e102 _ h5))), fun _ => fail_k h2 (by decide) (fun s3 h3 _ _ => e102 _ h3)⟩, fun _ => CK_k h2 (fun s3 h3 => e102 _ h3)⟩
  exact ⟨fun _ => e51, fun _ => ⟨fun _ => e51, fun _ => ⟨fun _ => step_k h2 (fun s3 h3 => h3), fun _ => fail_k h2 (by decide) (fun s3 h3 _ _ => h3)⟩⟩⟩
theorem readAtom_k {s : im_S} {Q : im_S → Prop} (hC : CK s Q) : C_readAtom7 s Q := by
  obtain ⟨s0, h, hQ⟩ := hC
  have e79 : ∀ l s1, RK s0 s1 → (s1.1 2 4 = 0 → pok s1 5) → C_readAtom7_79 l s1 Q := fun l s1 h1 hp => by
    refine ⟨fun _ => hQ _ h1, fun f0 => ⟨fun _ => hQ _ h1, fun c => ?_⟩⟩
    refine min_J (max_J ?_)
    obtain ⟨a1, a2, a3⟩ := h1.2.1
    obtain ⟨P, p1, p2⟩ := hp f0
    obtain ⟨n, hn⟩ : ∃ n : Nat, s1.1 2 11 = (n : Int) := ⟨(s1.1 2 11).toNat, by omega⟩
    have n9 : n < 10 := by unfold cgf at c; omega
    rw [show cgf s1 2 11 = (n : Int) from hn, Int.toNat_natCast]
    show C_copy6 (61 + 2 * n) 5 s1 _
    refine copy6_b p1 (by omega) (fun s2 q2 f2 => ?_)
    have h2 : RK s0 s2 := by
      have e : s2.1 2 11 = s1.1 2 11 := f2.1 _ _ (by omega)
      refine ⟨slb_2 h1.1 (fun i hi => f2.1 _ _ (by omega)) (fun i hi => f2.2 _ (by omega)), ⟨by rw [e]; exact a1, by rw [e]; exact a2, fun i hi => ?_⟩, by rw [f2.1 _ _ (by omega)]; exact h1.2.2.1, gfr_trans h1.2.2.2 (gfr_mono f2 (fun c k e => by omega) (fun c e => by omega))⟩
      rw [e] at hi
      exact pok_fr (a3 i hi) f2 (by omega) (by omega)
    have m2 : s2.1 2 11 = (n : Int) := by rw [f2.1 _ _ (by omega)]; exact hn
    intro _ s3 e3
    have h3 : RK s0 s3 := by subst e3; exact RK_pa h2 (by omega)
    have q3 : ply s3 (61 + 2 * n) P := by subst e3; exact ply_fr (F := fun _ _ => False) (R := fun c => c = 81) q2 (gfr_pa (gfr_refl _ _ _) rfl) (fun z => z) (by omega)
    have m3 : s3.1 2 11 = (n : Int) := by subst e3; exact m2
    refine ⟨fun _ => ?_, fun _ _ s4 e4 s5 e5 => ?_⟩
    · intro s6 e6
      refine hQ _ ?_
      obtain ⟨b1, ⟨b2, b3, b4⟩, b5, b6⟩ := h3
      subst e6
      rw [show cgf s3 2 11 = (n : Int) from m3, w32s (by omega)]
      have f6 : gfr (fun c f => c = 2 ∧ f = 11) (fun _ => False) s3 (cpf s3 2 11 ((n + 1 : Nat) : Int)) := gfr_pf (gfr_refl _ _ _) ⟨rfl, rfl⟩
      refine ⟨slb_2 b1 (fun i hi => f6.1 _ _ (by omega)) (fun i hi => rfl), ⟨by rw [cpf_same]; omega, by rw [cpf_same]; omega, fun i hi => ?_⟩, by rw [cpf_ne (by omega)]; exact b5, gfr_pf b6 (by omega)⟩
      rw [cpf_same] at hi
      by_cases ci : i = n
      · subst ci
        exact pok_fr ⟨P, q3, p2⟩ f6 (by omega) (fun z => z)
      · exact pok_fr (b4 i (by omega)) f6 (by omega) (fun z => z)
    · have g5 : gfr (fun c f => c = 2 ∧ f = 13) (fun c => c = 82) s3 s5 := by subst e5; subst e4; exact gfr_pf (gfr_pa (gfr_refl _ _ _) rfl) ⟨rfl, rfl⟩
      have h5 : RK s0 s5 := by subst e5; subst e4; exact RK_pf (RK_pa h3 (by omega)) (by omega) (by omega)
      have q5 : ply s5 (61 + 2 * n) P := ply_fr q3 g5 (by omega) (by omega)
      have m5 : s5.1 2 11 = (n : Int) := by rw [g5.1 _ _ (by omega)]; exact m3
      intro s6 e6
      refine hQ _ ?_
      obtain ⟨b1, ⟨b2, b3, b4⟩, b5, b6⟩ := h5
      subst e6
      rw [show cgf s5 2 11 = (n : Int) from m5, w32s (by omega)]
      have f6 : gfr (fun c f => c = 2 ∧ f = 11) (fun _ => False) s5 (cpf s5 2 11 ((n + 1 : Nat) : Int)) := gfr_pf (gfr_refl _ _ _) ⟨rfl, rfl⟩
      refine ⟨slb_2 b1 (fun i hi => f6.1 _ _ (by omega)) (fun i hi => rfl), ⟨by rw [cpf_same]; omega, by rw [cpf_same]; omega, fun i hi => ?_⟩, by rw [cpf_ne (by omega)]; exact b5, gfr_pf b6 (by omega)⟩
      rw [cpf_same] at hi
      by_cases ci : i = n
      · subst ci
        exact pok_fr ⟨P, q5, p2⟩ f6 (by omega) (fun z => z)
      · exact pok_fr (b4 i (by omega)) f6 (by omega) (fun z => z)
  refine CK_k h (fun s1 h1 => index4_k (fun z => ⟨fun _ => ⟨fun _ => step_k h1 (fun s2 h2 => CK_k h2 (fun s3 h3 => ?_)), fun _ => fail_k h1 (by decide) (fun s2 h2 q _ => e79 _ _ h2 (fun z => absurd z q))⟩, fun _ => fail_k h1 (by decide) (fun s2 h2 q _ => e79 _ _ h2 (fun z => absurd z q))⟩))
  refine min_J (max_J (slot_k (fun j hj => ?_)))
  exact addTo_k (j := 0) h3 (by omega) (by omega) (Or.inr rfl) (fun s4 h4 p4 _ => e79 _ _ h4 p4)
theorem readSum_k {l1 l2 : Int} {s : im_S} {Q : im_S → Prop} (hC : CK s Q) : C_readSum7 l1 l2 s Q := by
  obtain ⟨s0, h, hQ⟩ := hC
  have e41 : ∀ s1, RK s0 s1 → C_readSum7_41 l1 l2 s1 Q := fun s1 h1 => by
    refine ⟨fun a => RK s0 a.2, h1, ?_⟩
    rintro ⟨x, s2⟩ h2
    dsimp only at h2 ⊢
    have e70 : C_readSum7_70 (fun a => RK s0 a.2) l1 l2 x s2 Q := fun v ev => step_k h2 (fun s3 h3 => CK_k h3 (fun s4 h4 => slot_k (fun j hj => slot_k (fun j' hj' => addTo_k h4 (by omega) (by omega) (by rw [ev]; split; exact Or.inl rfl; exact Or.inr rfl) (fun s5 h5 _ _ => h5)))))
    exact ⟨fun _ => hQ _ h2, fun _ => ⟨fun _ => e70, fun _ => ⟨fun _ => hQ _ h2, fun _ => e70⟩⟩⟩
  have e23 : ∀ v s1, RK s0 s1 → C_readSum7_23 l1 l2 v s1 Q := fun v s1 h1 => CK_k h1 (fun s2 h2 => ⟨fun _ => e41 _ h2, fun _ => slot_k (fun j hj => negate_k h2 (by omega) (fun s3 h3 => e41 _ h3))⟩)
  exact fun v _ => ⟨fun _ => e23 _ _ h, fun _ => step_k h (fun s1 h1 => e23 _ _ h1)⟩
theorem readTerm_k {l1 l2 : Int} {s : im_S} {Q : im_S → Prop} (hC : CK s Q) : C_readTerm7 l1 l2 s Q := by
  obtain ⟨s0, h, hQ⟩ := hC
  refine CK_k h (fun s1 h1 => ⟨fun a => RK s0 a.2, h1, ?_⟩)
  rintro ⟨x, s2⟩ h2
  dsimp only at h2 ⊢
  exact ⟨fun _ => hQ _ h2, fun _ => ⟨fun _ => hQ _ h2, fun _ => step_k h2 (fun s3 h3 => CK_k h3 (fun s4 h4 => slot_k (fun j hj => slot_k (fun j' hj' => multiply_k h4 (by omega) (by omega) (fun s5 h5 => h5)))))⟩⟩
theorem readPower_k {l1 l2 : Int} {s : im_S} {Q : im_S → Prop} (hC : CK s Q) : C_readPower7 l1 l2 s Q := by
  obtain ⟨s0, h, hQ⟩ := hC
  exact CK_k h (fun s1 h1 => ⟨fun _ => hQ _ h1, fun _ => step_k h1 (fun s2 h2 => readNumber_k h2 (fun z s3 h3 _ _ => slot_k (fun j hj => raise_k h3 hj (fun s4 h4 => hQ _ h4))))⟩)
theorem readBase_k {l1 l2 : Int} {s : im_S} {Q : im_S → Prop} (hC : CK s Q) : C_readBase7 l1 l2 s Q := by
  obtain ⟨s0, h, hQ⟩ := hC
  exact ⟨fun _ => ⟨fun _ => ⟨fun _ => step_k h (fun s1 h1 => CK_k h1 (fun s2 h2 => expect_k h2 (fun s3 h3 => hQ _ h3))), fun _ => fail_k h (by decide) (fun s1 h1 _ _ => hQ _ h1)⟩, fun _ => slot_k (fun j hj => readNumber_k h (fun z s1 h1 z0 z1 => setC_k h1 (by omega) z0 z1 (fun s2 h2 => hQ _ h2)))⟩, fun _ => slot_k (fun j hj => setL_k h (by omega) (fun s1 h1 => step_k h1 (fun s2 h2 => hQ _ h2)))⟩
theorem RS_all (L : Nat) (ys : Nat → Int32) : ∀ d : Nat, RS L ys d
  | 0 => ⟨fun s hv l1 l1r Q hC res hr => (pc_0 hr).elim, fun s hv l1 l1r Q hC res hr => (pc_0 hr).elim, fun s hv l1 l1r Q hC res hr => (pc_0 hr).elim, fun s hv Q hC res hr => (pc_0 hr).elim, fun s hv l1 l1r l2 l2r Q hC res hr => (pc_0 hr).elim, fun s hv l1 l1r l2 l2r Q hC res hr => (pc_0 hr).elim, fun s hv l1 l1r l2 l2r Q hC res hr => (pc_0 hr).elim, fun s hv l1 l1r l2 l2r Q hC res hr => (pc_0 hr).elim⟩
  | d + 1 => ⟨fun s hv l1 l1r Q hC => c_readText7 L ys d (RS_all L ys d) s hv l1 l1r Q (readText_k hC),
    fun s hv l1 l1r Q hC => c_readAll7 L ys d (RS_all L ys d) s hv l1 l1r Q (readAll_k hC),
    fun s hv l1 l1r Q hC => c_readOne7 L ys d (RS_all L ys d) s hv l1 l1r Q (readOne_k hC),
    fun s hv Q hC => c_readAtom7 L ys d (RS_all L ys d) s hv Q (readAtom_k hC),
    fun s hv l1 l1r l2 l2r Q hC => c_readSum7 L ys d (RS_all L ys d) s hv l1 l1r l2 l2r Q (readSum_k hC),
    fun s hv l1 l1r l2 l2r Q hC => c_readTerm7 L ys d (RS_all L ys d) s hv l1 l1r l2 l2r Q (readTerm_k hC),
    fun s hv l1 l1r l2 l2r Q hC => c_readPower7 L ys d (RS_all L ys d) s hv l1 l1r l2 l2r Q (readPower_k hC),
    fun s hv l1 l1r l2 l2r Q hC => c_readBase7 L ys d (RS_all L ys d) s hv l1 l1r l2 l2r Q (readBase_k hC)⟩
