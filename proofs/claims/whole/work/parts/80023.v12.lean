theorem tcO_em {tx : Nat → Int} {n j : Nat} {s s' : im_S} {r : ou ats} (h : tcO tx n j s r) (f : gfr (fun c f => c = 2 ∧ f = 13) (fun c => c = 82) s s') : tcO tx n j s' r := by
  cases r with
  | inl e =>
    obtain ⟨a, b, c, d⟩ := h
    exact ⟨by rw [f.1 _ _ (by omega)]; exact a, b, by rw [f.1 _ _ (by omega)]; exact c, by rw [f.1 _ _ (by omega)]; exact d⟩
  | inr z =>
    obtain ⟨j1, B⟩ := z
    obtain ⟨a, b, c, d⟩ := h
    exact ⟨gdS_em a f, ctx_fr b f (by omega) (by omega), tat_fr c f (by omega) (fun i hi => by omega) (fun i hi => by omega) (by omega), d⟩
theorem one102 {tx : Nat → Int} {n j : Nat} {l : Int} {s : im_S} {r : ou ats} {Q : im_S → Prop} (h : tcO tx n j s r) (hQ : ∀ s', tcO tx n j s' r → Q s') : C_readOne7v_102 l s Q := ⟨fun _ => hQ s h, fun _ => emit_v (fun s1 f1 => hQ s1 (tcO_em h f1))⟩
theorem one102_b {l : Int} {s : im_S} {e : Int × Int} {Q : im_S → Prop} (h : bdS s e) (hQ : ∀ s', bdS s' e → Q s') : C_readOne7v_102 l s Q := ⟨fun _ => hQ s h, fun _ => emit_b h hQ⟩
theorem readOne_w {l1 : Int} {s : im_S} {Q : im_S → Prop} (hC : CVt 1 l1 s Q) : C_readOne7v l1 s Q := by
  have bad51 : ∀ (l e) (s1 : im_S), bdS s1 e → (∀ s', bdS s' e → Q s') → C_readOne7v_51 l1 l s1 Q := fun l e s1 b q => by
    have n1 : cgf s1 2 3 = 1 := b.2.2.2
    refine ⟨fun z => ?_, fun _ => Or.inl ⟨e, b, fun s2 b2 => one102_b b2 q⟩⟩
    rw [n1] at z; exact absurd z (by decide)
  rcases hC with ⟨e, h, hQ⟩ | ⟨tx, n, j, d, A, hc, h, hA, rfl, hd, hQ⟩
  · refine ⟨fun q => bdS q.2.2 e, h, ?_⟩
    rintro ⟨x, y, s1⟩ b1
    dsimp only at b1 ⊢
    refine ⟨fun _ => bad51 _ e s1 b1 hQ, fun _ => ⟨fun _ => bad51 _ e s1 b1 hQ, fun z => ?_⟩⟩
    rw [show cgf s1 2 3 = 1 from b1.2.2.2] at z; exact absurd z (by decide)
  · have n400 := hc.2.1
    refine ⟨fun q => (∃ e, bdS q.2.2 e ∧ Tx tx n 1 0 d j A (.inl e)) ∨ ∃ k t j2 : Nat, q.1 = (k : Int) ∧ q.2.1 = (t : Int) ∧ k ≤ 10 ∧ t ≤ j2 ∧ gdS tx n q.2.2 j2 ∧ ctx tx n q.2.2 ∧ tat q.2.2 A ∧ j ≤ j2 ∧ ∀ r, Tx tx n 1 k d j2 A r → Tx tx n 1 0 d j A r, Or.inr ⟨0, 0, j, rfl, rfl, by omega, by omega, h, hc, hA, Nat.le_refl _, fun r g => g⟩, ?_⟩
    rintro ⟨x, y, s1⟩ hI
    dsimp only at hI ⊢
    rcases hI with ⟨e, b1, g1⟩ | ⟨k, t, j1, ex, ey, k10, tj, gd1, c1, A1, jj, bk⟩
    · have q1 : ∀ s', bdS s' e → Q s' := fun s' b => hQ s' _ g1 b
      refine ⟨fun _ => bad51 _ e s1 b1 q1, fun _ => ⟨fun _ => bad51 _ e s1 b1 q1, fun z => ?_⟩⟩
      rw [show cgf s1 2 3 = 1 from b1.2.2.2] at z; exact absurd z (by decide)
    · subst ex
      subst ey
      have up : ∀ s' r, Tx tx n 1 k d j1 A r → tcO tx n j1 s' r → Q s' := fun s' r g o => by
        refine hQ s' r (bk r g) ?_
        cases r with
        | inl e => exact o
        | inr z =>
          obtain ⟨j9, B⟩ := z
          obtain ⟨o1, o2, o3, o4⟩ := o
          exact ⟨o1, o2, o3, by omega⟩
      have e51 : nxc tx n j1 ≠ 126 → C_readOne7v_51 (d : Int) (k : Int) s1 Q := fun n126 => by
        unfold C_readOne7v_51
        rw [show cgf s1 2 3 = nxc tx n j1 from gd1.2.2.1, show cgf s1 2 2 = (j1 : Int) from gd1.2.1]
        refine ⟨fun e91 => ⟨fun c => ?_, fun c => ?_⟩, fun n91 => ?_⟩
        · have d10 : d < 10 := by omega
          rw [w32s (show d ≤ 1000 by omega)]
          refine step_v c1 gd1 (nxc_lt (by rw [e91]; decide)) (fun s2 r2 ad2 lk2 f2 => ?_)
          cases r2 with
          | inl e =>
            have gx : Tx tx n 1 k d j1 A (.inl e) := Tx_on (Or.inr (Or.inr ⟨e91, Or.inr ⟨d10, Or.inl ⟨e, ad2, rfl⟩⟩⟩))
            exact CVt_b lk2 (fun s3 b3 => expect_b b3 (fun s4 b4 => one102_b b4 (fun s5 b5 => up s5 _ gx b5)))
          | inr z =>
            obtain ⟨j2, u⟩ := z
            have l2 := adv_le ad2
            refine CVt_g (ctx_lk c1 f2) lk2 (tat_lk A1 f2) (by omega) (fun s3 r3 g3 o3 => ?_)
            cases r3 with
            | inl e =>
              have gx : Tx tx n 1 k d j1 A (.inl e) := Tx_on (Or.inr (Or.inr ⟨e91, Or.inr ⟨d10, Or.inr ⟨j2, ad2, Or.inl ⟨e, g3, rfl⟩⟩⟩⟩))
              exact expect_b o3 (fun s4 b4 => one102_b b4 (fun s5 b5 => up s5 _ gx b5))
            | inr y =>
              obtain ⟨j3, B⟩ := y
              obtain ⟨gd3, c3, A3, lt3⟩ := o3
              refine expect_v c3 gd3 (by decide) (fun e93 s4 r4 ad4 lk4 f4 => ?_) (fun e93 s4 b4 => ?_)
              · have gx : Tx tx n 1 k d j1 A (r4.map id (fun z => (z.1, B))) := Tx_on (Or.inr (Or.inr ⟨e91, Or.inr ⟨d10, Or.inr ⟨j2, ad2, Or.inr ⟨j3, B, g3, Or.inr ⟨e93, r4, ad4, rfl⟩⟩⟩⟩⟩))
                refine one102 (r := r4.map id (fun z => (z.1, B))) ?_ (fun s5 o5 => up s5 _ gx o5)
                cases r4 with
                | inl e => exact lk4
                | inr w =>
                  obtain ⟨j4, u4⟩ := w
                  have l4 := adv_le ad4
                  exact ⟨lk4, ctx_lk c3 f4, tat_lk A3 f4, by omega⟩
              · have gx : Tx tx n 1 k d j1 A (.inl (2, (j3 : Int))) := Tx_on (Or.inr (Or.inr ⟨e91, Or.inr ⟨d10, Or.inr ⟨j2, ad2, Or.inr ⟨j3, B, g3, Or.inl ⟨e93, rfl⟩⟩⟩⟩⟩))
                exact one102_b b4 (fun s5 b5 => up s5 _ gx b5)
        · have gx : Tx tx n 1 k d j1 A (.inl (3, (j1 : Int))) := Tx_on (Or.inr (Or.inr ⟨e91, Or.inl ⟨by omega, rfl⟩⟩))
          exact fail_g gd1.1 (by decide) (fun s2 b2 _ => one102_b b2 (fun s3 b3 => up s3 _ gx b3))
        · refine Or.inr ⟨tx, n, j1, A, c1, gd1, A1, fun s2 r2 g2 o2 => one102 o2 (fun s3 o3 => up s3 r2 (Tx_on (Or.inr (Or.inl ⟨n126, n91, g2⟩))) o3)⟩
      unfold C_readOne7v_4
      rw [show cgf s1 2 3 = nxc tx n j1 from gd1.2.2.1, show cgf s1 2 2 = (j1 : Int) from gd1.2.1]
      refine ⟨fun c => e51 (by rw [nxc_400 (by omega)]; decide), fun c => ⟨fun e => e51 e, fun e126 => ⟨fun c2 => ?_, fun c2 => ?_⟩⟩⟩
      · have kk : k < 10 := by omega
        refine step_v c1 gd1 (nxc_lt (by rw [e126]; decide)) (fun s2 r2 ad2 lk2 f2 => ?_)
        cases r2 with
        | inl e => exact Or.inl ⟨e, lk2, bk _ (Tx_on (Or.inl ⟨e126, Or.inr ⟨kk, Or.inl ⟨e, ad2, rfl⟩⟩⟩))⟩
        | inr z =>
          obtain ⟨j2, u⟩ := z
          have l2 := adv_le ad2
          exact Or.inr ⟨k + 1, t + 1, j2, w32s (by omega), w32s (by omega), by omega, by omega, lk2, ctx_lk c1 f2, tat_lk A1 f2, by omega, fun r g => bk r (Tx_on (Or.inl ⟨e126, Or.inr ⟨kk, Or.inr ⟨j2, ad2, g⟩⟩⟩))⟩
      · exact fail_g gd1.1 (by decide) (fun s2 b2 _ => Or.inl ⟨(3, (j1 : Int)), b2, bk _ (Tx_on (Or.inl ⟨e126, Or.inl ⟨by omega, rfl⟩⟩))⟩)
theorem readAll_w {l1 : Int} {s : im_S} {Q : im_S → Prop} (hC : CVt 2 l1 s Q) : C_readAll7v l1 s Q := by
  rcases hC with ⟨e, h, hQ⟩ | ⟨tx, n, j, d, A, hc, h, hA, rfl, hd, hQ⟩
  · refine CVt_b h (fun s1 b1 => ⟨fun q => bdS q.2 e, b1, ?_⟩)
    rintro ⟨x, s2⟩ b2
    dsimp only at b2 ⊢
    refine ⟨fun _ => hQ s2 b2, fun _ => ⟨fun _ => hQ s2 b2, fun z => ?_⟩⟩
    rw [show cgf s2 2 3 = 1 from b2.2.2.2] at z; exact absurd z (by decide)
  · have n400 := hc.2.1
    refine CVt_g hc h hA hd (fun s1 r1 g1 o1 => ?_)
    refine ⟨fun q => (∃ e, bdS q.2 e ∧ Tx tx n 2 0 d j A (.inl e)) ∨ ∃ (t j2 : Nat) (B : ats), q.1 = (t : Int) ∧ t ≤ j2 ∧ gdS tx n q.2 j2 ∧ ctx tx n q.2 ∧ tat q.2 B ∧ j < j2 ∧ ∀ r, Tx tx n 3 0 d j2 B r → Tx tx n 2 0 d j A r, ?_, ?_⟩
    · cases r1 with
      | inl e => exact Or.inl ⟨e, o1, Tx_al (Or.inl ⟨e, g1, rfl⟩)⟩
      | inr z =>
        obtain ⟨j1, B⟩ := z
        obtain ⟨o1, o2, o3, o4⟩ := o1
        exact Or.inr ⟨0, j1, B, rfl, by omega, o1, o2, o3, o4, fun r g => Tx_al (Or.inr ⟨j1, B, g1, g⟩)⟩
    · rintro ⟨x, s2⟩ hI
      dsimp only at hI ⊢
      rcases hI with ⟨e, b2, g2⟩ | ⟨t, j2, B, ex, tj, gd2, c2, A2, lt2, bk⟩
      · refine ⟨fun _ => hQ s2 _ g2 b2, fun _ => ⟨fun _ => hQ s2 _ g2 b2, fun z => ?_⟩⟩
        rw [show cgf s2 2 3 = 1 from b2.2.2.2] at z; exact absurd z (by decide)
      · subst ex
        have fin : nxc tx n j2 ≠ 38 → Q s2 := fun e => hQ s2 (.inr (j2, B)) (bk _ (Tx_ar (Or.inl ⟨e, rfl⟩))) ⟨gd2, c2, A2, lt2⟩
        unfold C_readAll7v_7
        rw [show cgf s2 2 3 = nxc tx n j2 from gd2.2.2.1]
        refine ⟨fun c => fin (by rw [nxc_400 (by omega)]; decide), fun c => ⟨fun e => fin e, fun e38 => ?_⟩⟩
        refine step_v c2 gd2 (nxc_lt (by rw [e38]; decide)) (fun s3 r3 ad3 lk3 f3 => ?_)
        cases r3 with
        | inl e => exact CVt_b lk3 (fun s4 b4 => emit_b b4 (fun s5 b5 => Or.inl ⟨e, b5, bk _ (Tx_ar (Or.inr ⟨e38, Or.inl ⟨e, ad3, rfl⟩⟩))⟩))
        | inr z =>
          obtain ⟨j3, u⟩ := z
          have l3 := adv_le ad3
          refine CVt_g (ctx_lk c2 f3) lk3 (tat_lk A2 f3) hd (fun s4 r4 g4 o4 => ?_)
          cases r4 with
          | inl e => exact emit_b o4 (fun s5 b5 => Or.inl ⟨e, b5, bk _ (Tx_ar (Or.inr ⟨e38, Or.inr ⟨j3, ad3, Or.inl ⟨e, g4, rfl⟩⟩⟩))⟩)
          | inr y =>
            obtain ⟨j4, B4⟩ := y
            refine emit_v (fun s5 f5 => ?_)
            obtain ⟨p1, p2, p3, p4⟩ := tcO_em (r := .inr (j4, B4)) o4 f5
            exact Or.inr ⟨t + 1, j4, B4, w32s (by omega), by omega, p1, p2, p3, by omega, fun r g => bk r (Tx_ar (Or.inr ⟨e38, Or.inr ⟨j3, ad3, Or.inr ⟨j4, B4, g4, g⟩⟩⟩))⟩
theorem readText_w {l1 : Int} {s : im_S} {Q : im_S → Prop} (hC : CVt 4 l1 s Q) : C_readText7v l1 s Q := by
  rcases hC with ⟨e, h, hQ⟩ | ⟨tx, n, j, d, A, hc, h, hA, rfl, hd, hQ⟩
  · refine CVt_b h (fun s1 b1 => ⟨fun q => bdS q.2 e, b1, ?_⟩)
    rintro ⟨x, s2⟩ b2
    dsimp only at b2 ⊢
    refine ⟨fun _ => hQ s2 b2, fun _ => ⟨fun _ => hQ s2 b2, fun z => ?_⟩⟩
    rw [show cgf s2 2 3 = 1 from b2.2.2.2] at z; exact absurd z (by decide)
  · have n400 := hc.2.1
    refine CVt_g hc h hA hd (fun s1 r1 g1 o1 => ?_)
    refine ⟨fun q => (∃ e, bdS q.2 e ∧ Tx tx n 4 0 d j A (.inl e)) ∨ ∃ (t j2 : Nat) (B : ats), q.1 = (t : Int) ∧ t ≤ j2 ∧ gdS tx n q.2 j2 ∧ ctx tx n q.2 ∧ tat q.2 B ∧ j < j2 ∧ ∀ r, Tx tx n 5 0 d j2 B r → Tx tx n 4 0 d j A r, ?_, ?_⟩
    · cases r1 with
      | inl e => exact Or.inl ⟨e, o1, Tx_tx (Or.inl ⟨e, g1, rfl⟩)⟩
      | inr z =>
        obtain ⟨j1, B⟩ := z
        obtain ⟨o1, o2, o3, o4⟩ := o1
        exact Or.inr ⟨0, j1, B, rfl, by omega, o1, o2, o3, o4, fun r g => Tx_tx (Or.inr ⟨j1, B, g1, g⟩)⟩
    · rintro ⟨x, s2⟩ hI
      dsimp only at hI ⊢
      rcases hI with ⟨e, b2, g2⟩ | ⟨t, j2, B, ex, tj, gd2, c2, A2, lt2, bk⟩
      · refine ⟨fun _ => hQ s2 _ g2 b2, fun _ => ⟨fun _ => hQ s2 _ g2 b2, fun z => ?_⟩⟩
        rw [show cgf s2 2 3 = 1 from b2.2.2.2] at z; exact absurd z (by decide)
      · subst ex
        have fin : nxc tx n j2 ≠ 124 → Q s2 := fun e => hQ s2 (.inr (j2, B)) (bk _ (Tx_tr (Or.inl ⟨e, rfl⟩))) ⟨gd2, c2, A2, lt2⟩
        unfold C_readText7v_7
        rw [show cgf s2 2 3 = nxc tx n j2 from gd2.2.2.1]
        refine ⟨fun c => fin (by rw [nxc_400 (by omega)]; decide), fun c => ⟨fun e => fin e, fun e38 => ?_⟩⟩
        refine step_v c2 gd2 (nxc_lt (by rw [e38]; decide)) (fun s3 r3 ad3 lk3 f3 => ?_)
        cases r3 with
        | inl e => exact CVt_b lk3 (fun s4 b4 => emit_b b4 (fun s5 b5 => Or.inl ⟨e, b5, bk _ (Tx_tr (Or.inr ⟨e38, Or.inl ⟨e, ad3, rfl⟩⟩))⟩))
        | inr z =>
          obtain ⟨j3, u⟩ := z
          have l3 := adv_le ad3
          refine CVt_g (ctx_lk c2 f3) lk3 (tat_lk A2 f3) hd (fun s4 r4 g4 o4 => ?_)
          cases r4 with
          | inl e => exact emit_b o4 (fun s5 b5 => Or.inl ⟨e, b5, bk _ (Tx_tr (Or.inr ⟨e38, Or.inr ⟨j3, ad3, Or.inl ⟨e, g4, rfl⟩⟩⟩))⟩)
          | inr y =>
            obtain ⟨j4, B4⟩ := y
            refine emit_v (fun s5 f5 => ?_)
            obtain ⟨p1, p2, p3, p4⟩ := tcO_em (r := .inr (j4, B4)) o4 f5
            exact Or.inr ⟨t + 1, j4, B4, w32s (by omega), by omega, p1, p2, p3, by omega, fun r g => bk r (Tx_tr (Or.inr ⟨e38, Or.inr ⟨j3, ad3, Or.inr ⟨j4, B4, g4, g⟩⟩⟩))⟩
