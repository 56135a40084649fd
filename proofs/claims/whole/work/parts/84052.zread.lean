/-! the class's reader, with its program: the walks -/
theorem zl13 {c d : Nat} {A B : atz} (h : zlg c d A B) (hA : A.2.length ≤ 13 * A.1.length) : B.2.length ≤ 13 * B.1.length ∧ ((c = 1 ∨ c = 2 ∨ c = 4) → B.2.length + 1 ≤ 13 * B.1.length) := by
  obtain ⟨D, a1, a2, a3⟩ := h
  have e : (13 - d) * D ≤ 13 * D := Nat.mul_le_mul_right _ (by omega)
  refine ⟨by omega, fun q => ?_⟩
  have := (a2 q).2
  omega
theorem readAtom_z {s : im_S} {Q : im_S → Prop} (hC : CZ_readAtom s Q) : C_readAtom7z s Q := by
  have bad79 : ∀ (l : Int) (e : Int × Int) (s1 : im_S), bdS s1 e → Q s1 → C_readAtom7z_79 l s1 Q := fun l e s1 b q => ⟨fun _ => q, fun c => absurd (b.1.symm.trans c) b.2.1⟩
  rcases hC with ⟨e, h, hQ⟩ | ⟨tx, n, j, A0, hc, h, ⟨hA, hP, hL⟩, hQ⟩
  · refine CVp_b h (fun s1 b1 => index4_any (fun z => ⟨fun _ => ⟨fun _ => step_b b1 (fun s2 b2 => CVp_b b2 (fun s3 b3 => slot_b (fun a1 => slot_b (fun a2 => addTo_b b3 (fun s4 b4 => bad79 _ e s4 b4 (hQ s4 b4)))))), fun _ => fail_bd b1 (fun s2 b2 => bad79 _ e s2 b2 (hQ s2 b2))⟩, fun _ => fail_bd b1 (fun s2 b2 => bad79 _ e s2 b2 (hQ s2 b2))⟩))
  · obtain ⟨A, pi⟩ := A0
    dsimp only at hA hP hL
    have hQe : ∀ s' e, tAT tx n j A (.inl e) → bdS s' e → Q s' := fun s' e g b => hQ s' (.inl e) ⟨.inl e, g, rfl⟩ b
    refine CVp_g (a := 0) (d := 0) hc h (by omega) (by omega) (fun s1 r1 g1 o1 => ?_)
    cases r1 with
    | inl e =>
      have gx : tAT tx n j A (.inl e) := Or.inl ⟨e, g1, rfl⟩
      have b1 : bdS s1 e := o1
      exact index4_any (fun z => ⟨fun _ => ⟨fun _ => step_b b1 (fun s2 b2 => CVp_b b2 (fun s3 b3 => slot_b (fun a1 => slot_b (fun a2 => addTo_b b3 (fun s4 b4 => bad79 _ e s4 b4 (hQe s4 _ gx b4)))))), fun _ => fail_bd b1 (fun s2 b2 => bad79 _ e s2 b2 (hQe s2 _ gx b2))⟩, fun _ => fail_bd b1 (fun s2 b2 => bad79 _ e s2 b2 (hQe s2 _ gx b2))⟩)
    | inr z =>
      obtain ⟨j1, P⟩ := z
      obtain ⟨gd1, lt1, p1, fn1, v1⟩ := o1
      have c1 := ctx_vf hc v1
      have A1 := tat_vf hA v1
      have b126 : 0 ≤ nxc tx n j1 ∧ nxc tx n j1 ≤ 126 := by
        unfold nxc
        split
        · rename_i l; have := hc.2.2.2 j1 l; omega
        · decide
      rw [show cgf s1 2 3 = nxc tx n j1 from gd1.2.2.1, c16_id b126.1 b126.2]
      refine index4_v b126.1 b126.2 (fun hr z z0 ez => ⟨fun _ => ?_, fun q => absurd z0 q⟩) (fun hr => ⟨fun q => absurd q (by decide), fun _ => ?_⟩)
      · rw [show cgf s1 2 11 = (A.length : Int) from A1.1, show cgf s1 2 2 = (j1 : Int) from gd1.2.1]
        refine ⟨fun c => ?_, fun c => ?_⟩
        · have al : A.length < 10 := by omega
          refine step_v c1 gd1 (nxc_lt (by rcases hr with q | q | q <;> rw [q] <;> decide)) (fun s2 r2 ad2 lk2 f2 => ?_)
          cases r2 with
          | inl e =>
            have gx : tAT tx n j A (.inl e) := Or.inr ⟨j1, P, g1, Or.inr ⟨hr, Or.inr ⟨al, Or.inl ⟨e, ad2, rfl⟩⟩⟩⟩
            exact CVp_b lk2 (fun s3 b3 => slot_b (fun a1 => slot_b (fun a2 => addTo_b b3 (fun s4 b4 => bad79 _ e s4 b4 (hQe s4 _ gx b4)))))
          | inr y =>
            obtain ⟨j2, u⟩ := y
            have l2 := adv_le ad2
            refine CVp_g (a := 1) (d := 0) (ctx_lk c1 f2) lk2 (by omega) (by omega) (fun s3 r3 g3 o3 => ?_)
            cases r3 with
            | inl e =>
              have gx : tAT tx n j A (.inl e) := Or.inr ⟨j1, P, g1, Or.inr ⟨hr, Or.inr ⟨al, Or.inr ⟨j2, ad2, Or.inl ⟨e, g3, rfl⟩⟩⟩⟩⟩
              exact slot_b (fun a1 => slot_b (fun a2 => addTo_b o3 (fun s4 b4 => bad79 _ e s4 b4 (hQe s4 _ gx b4))))
            | inr x =>
              obtain ⟨j3, R⟩ := x
              obtain ⟨gd3, lt3, p3, fn3, v3⟩ := o3
              have pa : slp s3 (5 + 2 * 0) P := slp_fr (slp_fr p1 f2 (by omega) (fun z => z)) v3 (by omega) (by omega)
              have c3 := ctx_vf (ctx_lk c1 f2) v3
              have A3 := tat_vf (tat_lk A1 f2) v3
              have P3 : prg s3 pi := prg_vf (prg_lk (prg_vf hP v1) f2) v3
              refine slot_v (a := 0) (by omega) (slot_v (a := 1) (by omega) (addTo_v ⟨by omega, by omega⟩ ⟨by omega, by omega⟩ (by omega) gd3.1 pa p3 fn1 fn3 (Or.inr rfl) (fun m hm s4 p4 fn4 f4 => ?_) (fun hm s4 b4 => bad79 _ _ s4 b4 (hQe s4 _ (Or.inr ⟨j1, P, g1, Or.inr ⟨hr, Or.inr ⟨al, Or.inr ⟨j2, ad2, Or.inr ⟨j3, R, g3, Or.inl ⟨hm, rfl⟩⟩⟩⟩⟩⟩) b4))))
              have gd4 := gdS_fr gd3 f4 (fun k => by omega)
              have c4 : ctx tx n s4 := ctx_fr c3 f4 (by omega) (by omega)
              have A4 : tat s4 A := tat_fr A3 f4 (by omega) (fun i hi => by omega) (fun i hi => by omega) (by omega)
              have P4 : prg s4 pi := prg_fr P3 f4 (by omega) (by omega)
              have gx : tAT tx n j A (.inr (j3, A ++ [(m, rlc (nxc tx n j1))])) := Or.inr ⟨j1, P, g1, Or.inr ⟨hr, Or.inr ⟨al, Or.inr ⟨j2, ad2, Or.inr ⟨j3, R, g3, Or.inr ⟨m, hm, rfl⟩⟩⟩⟩⟩⟩
              unfold C_readAtom7z_79
              rw [show cgf s4 2 11 = (A.length : Int) from A4.1]
              refine ⟨fun q => absurd gd4.1 q, fun _ => ⟨fun q => by omega, fun _ => ?_⟩⟩
              refine slot_v (a := 0) (by omega) ?_
              rw [Int.toNat_natCast]
              refine copy6_b (F := pmk 9 m) p4 (by omega) (fun s5 p5 f5 _ s6 e6 => ?_)
              have n5 : cgf s5 2 11 = (A.length : Int) := by show s5.1 2 11 = _; rw [f5.1 _ _ (by omega)]; exact A4.1
              rw [n5] at e6
              have f6 : gfr (fun _ _ => False) (fun c => c = 81) s5 s6 := by subst e6; exact gfr_pa (gfr_refl _ _ _) rfl
              have P6 : prg s6 pi := prg_fr (prg_fr P4 f5 (by omega) (by omega)) f6 (fun z => z) (by omega)
              have n6 : cgf s6 2 11 = (A.length : Int) := by show s6.1 2 11 = _; rw [f6.1 _ _ (fun z => z)]; exact n5
              rw [n6]
              refine emit_z P6 (by omega) (fun s7 f7 P7 s8 e8 => ?_)
              have n7 : cgf s7 2 11 = (A.length : Int) := by show s7.1 2 11 = _; rw [f7.1 _ _ (by omega), f6.1 _ _ (fun z => z)]; exact n5
              rw [n7, w32s (by omega)] at e8
              have f8 : gfr (fun c f => c = 2 ∧ f = 11) (fun _ => False) s7 s8 := by subst e8; exact gfr_pf (gfr_refl _ _ _) ⟨rfl, rfl⟩
              refine hQ s8 (.inr (j3, (A ++ [(m, rlc (nxc tx n j1))], pi ++ [(A.length : Int)]))) ⟨_, gx, rfl⟩ ⟨?_, ?_, ⟨?_, ?_, fun i p w e => ?_⟩, by omega, prg_fr P7 f8 (by omega) (fun z => z)⟩
              · have g7 := gdS_em (gdS_fr (gdS_fr gd4 f5 (fun k => by omega)) f6 (fun k => fun z => z)) f7
                obtain ⟨a1, a2, a3, a4⟩ := g7
                exact ⟨by rw [f8.1 _ _ (by omega)]; exact a1, by rw [f8.1 _ _ (by omega)]; exact a2, by rw [f8.1 _ _ (by omega)]; exact a3, a4⟩
              · exact ctx_fr (ctx_fr (ctx_fr (ctx_fr c4 f5 (by omega) (by omega)) f6 (fun z => z) (by omega)) f7 (by omega) (by omega)) f8 (by omega) (fun z => z)
              · subst e8; rw [cpf_same, List.length_append]; rfl
              · rw [List.length_append]; show A.length + 1 ≤ 10; omega
              · by_cases ci : i < A.length
                · rw [List.getElem?_append_left ci] at e
                  obtain ⟨x1, x2, x3⟩ := A4.2.2 i p w e
                  refine ⟨slp_fr (slp_fr (slp_fr (slp_fr x1 f5 (by omega) (by omega)) f6 (fun z => z) (by omega)) f7 (by omega) (by omega)) f8 (by omega) (fun z => z), x2, ?_⟩
                  rw [f8.2 _ (fun z => z), f7.2 _ (by omega)]
                  subst e6
                  rw [cpa_row, if_neg (by omega), f5.2 _ (by omega)]
                  exact x3
                · have ei : i = A.length := by
                    by_cases q : i < A.length + 1
                    · omega
                    · rw [List.getElem?_eq_none (by rw [List.length_append]; show A.length + 1 ≤ i; omega)] at e; cases e
                  subst ei
                  rw [List.getElem?_append_right (Nat.le_refl _), Nat.sub_self] at e
                  cases e
                  refine ⟨slp_fr (slp_fr (slp_fr p5 f6 (fun z => z) (by omega)) f7 (by omega) (by omega)) f8 (by omega) (fun z => z), fn4, ?_⟩
                  rw [f8.2 _ (fun z => z), f7.2 _ (by omega)]
                  subst e6
                  rw [cpa_row, if_pos (by omega)]
                  exact ez
        · exact fail_g gd1.1 (by decide) (fun s2 b2 _ => bad79 _ _ s2 b2 (hQe s2 _ (Or.inr ⟨j1, P, g1, Or.inr ⟨hr, Or.inl ⟨by omega, rfl⟩⟩⟩) b2))
      · rw [show cgf s1 2 2 = (j1 : Int) from gd1.2.1]
        exact fail_g gd1.1 (by decide) (fun s2 b2 _ => bad79 _ _ s2 b2 (hQe s2 _ (Or.inr ⟨j1, P, g1, Or.inl ⟨hr, rfl⟩⟩) b2))
theorem zcO_em {tx : Nat → Int} {n j j' : Nat} {s s' : im_S} {A : ats} {l l' : List Int} (h : zcO tx n j s (.inr (j', (A, l)))) (f : gfr (fun c f => c = 2 ∧ f = 13) (fun c => c = 82) s s') (p : prg s' l') : zcO tx n j s' (.inr (j', (A, l'))) := by
  obtain ⟨a, b, c, d, _⟩ := h
  exact ⟨gdS_em a f, ctx_fr b f (by omega) (by omega), tat_fr c f (by omega) (fun i hi => by omega) (fun i hi => by omega) (by omega), d, p⟩
theorem one102_z {tx : Nat → Int} {n j k : Nat} {s : im_S} {r : ou atz} {Q : im_S → Prop} (hk : k ≤ 10) (h : zcO tx n j s r) (hl : ∀ j' B, r = .inr (j', B) → B.2.length < 160) (hQ : ∀ s', zcO tx n j s' (r.map id (fun z => (z.1, ntk k z.2))) → Q s') : C_readOne7z_102 (k : Int) s Q := by
  have rm : remI (k : Int) 2 = ((k % 2 : Nat) : Int) := by
    rw [remI_eq (by omega) (by omega) (by omega) (by omega), Int.tmod_eq_emod_of_nonneg (by omega)]; omega
  unfold C_readOne7z_102 C_readOne7z_115
  rw [rm]
  cases r with
  | inl e => exact ⟨fun _ => hQ s h, fun _ => emit_b h (fun s1 b1 => hQ s1 b1)⟩
  | inr z =>
    obtain ⟨j', A, l⟩ := z
    refine ⟨fun c => hQ s ?_, fun c => emit_z h.2.2.2.2 (hl j' (A, l) rfl) (fun s1 f1 p1 => hQ s1 ?_)⟩
    · have e : ntk k (A, l) = (A, l) := if_neg (by omega)
      show zcO tx n j s (.inr (j', ntk k (A, l)))
      rw [e]; exact h
    · have e : ntk k (A, l) = (A, l ++ [10]) := if_pos (by omega)
      show zcO tx n j s1 (.inr (j', ntk k (A, l)))
      rw [e]; exact zcO_em h f1 p1
theorem one102_zb {l : Int} {s : im_S} {e : Int × Int} {Q : im_S → Prop} (h : bdS s e) (hQ : ∀ s', bdS s' e → Q s') : C_readOne7z_102 l s Q := ⟨fun _ => hQ s h, fun _ => emit_b h hQ⟩
theorem readOne_z {l1 : Int} {s : im_S} {Q : im_S → Prop} (hC : CZt 1 l1 s Q) : C_readOne7z l1 s Q := by
  have bad51 : ∀ (l e) (s1 : im_S), bdS s1 e → (∀ s', bdS s' e → Q s') → C_readOne7z_51 l1 l s1 Q := fun l e s1 b q => by
    have n1 : cgf s1 2 3 = 1 := b.2.2.2
    refine ⟨fun z => ?_, fun _ => Or.inl ⟨e, b, fun s2 b2 => one102_zb b2 q⟩⟩
    rw [n1] at z; exact absurd z (by decide)
  rcases hC with ⟨e, h, hQ⟩ | ⟨tx, n, j, d, A, hc, h, ⟨hA, hP, hL⟩, rfl, hd, hQ⟩
  · refine ⟨fun q => bdS q.2.2 e, h, ?_⟩
    rintro ⟨x, y, s1⟩ b1
    dsimp only at b1 ⊢
    refine ⟨fun _ => bad51 _ e s1 b1 hQ, fun _ => ⟨fun _ => bad51 _ e s1 b1 hQ, fun z => ?_⟩⟩
    rw [show cgf s1 2 3 = 1 from b1.2.2.2] at z; exact absurd z (by decide)
  · have n400 := hc.2.1
    refine ⟨fun q => (∃ e, bdS q.2.2 e ∧ Tz tx n 1 0 d j A (.inl e)) ∨ ∃ k t j2 : Nat, q.1 = (k : Int) ∧ q.2.1 = (t : Int) ∧ k ≤ 10 ∧ t ≤ j2 ∧ gdS tx n q.2.2 j2 ∧ ctx tx n q.2.2 ∧ (tat q.2.2 A.1 ∧ prg q.2.2 A.2) ∧ j ≤ j2 ∧ ∀ r, Tz tx n 1 k d j2 A r → Tz tx n 1 0 d j A r, Or.inr ⟨0, 0, j, rfl, rfl, by omega, by omega, h, hc, ⟨hA, hP⟩, Nat.le_refl _, fun r g => g⟩, ?_⟩
    rintro ⟨x, y, s1⟩ hI
    dsimp only at hI ⊢
    rcases hI with ⟨e, b1, g1⟩ | ⟨k, t, j1, ex, ey, k10, tj, gd1, c1, ⟨A1, P1⟩, jj, bk⟩
    · have q1 : ∀ s', bdS s' e → Q s' := fun s' b => hQ s' _ g1 b
      refine ⟨fun _ => bad51 _ e s1 b1 q1, fun _ => ⟨fun _ => bad51 _ e s1 b1 q1, fun z => ?_⟩⟩
      rw [show cgf s1 2 3 = 1 from b1.2.2.2] at z; exact absurd z (by decide)
    · subst ex
      subst ey
      have up : ∀ s' r, Tz tx n 1 k d j1 A r → zcO tx n j1 s' r → Q s' := fun s' r g o => by
        refine hQ s' r (bk r g) ?_
        cases r with
        | inl e => exact o
        | inr z =>
          obtain ⟨j9, B⟩ := z
          obtain ⟨o1, o2, o3, o4, o5⟩ := o
          exact ⟨o1, o2, o3, by omega, o5⟩
      have e51 : nxc tx n j1 ≠ 126 → C_readOne7z_51 (d : Int) (k : Int) s1 Q := fun n126 => by
        unfold C_readOne7z_51
        rw [show cgf s1 2 3 = nxc tx n j1 from gd1.2.2.1, show cgf s1 2 2 = (j1 : Int) from gd1.2.1]
        refine ⟨fun e91 => ⟨fun c => ?_, fun c => ?_⟩, fun n91 => ?_⟩
        · have d10 : d < 10 := by omega
          rw [w32s (show d ≤ 1000 by omega)]
          refine step_v c1 gd1 (nxc_lt (by rw [e91]; decide)) (fun s2 r2 ad2 lk2 f2 => ?_)
          cases r2 with
          | inl e =>
            have gx : Tz tx n 1 k d j1 A (.inl e) := Tz_on (Or.inr (Or.inr ⟨e91, Or.inr ⟨d10, Or.inl ⟨e, ad2, rfl⟩⟩⟩))
            exact CZt_b lk2 (fun s3 b3 => expect_b b3 (fun s4 b4 => one102_zb b4 (fun s5 b5 => up s5 _ gx b5)))
          | inr z =>
            obtain ⟨j2, u⟩ := z
            have l2 := adv_le ad2
            refine CZt_g (ctx_lk c1 f2) lk2 ⟨tat_lk A1 f2, prg_lk P1 f2, hL⟩ (by omega) (fun s3 r3 g3 o3 => ?_)
            cases r3 with
            | inl e =>
              have gx : Tz tx n 1 k d j1 A (.inl e) := Tz_on (Or.inr (Or.inr ⟨e91, Or.inr ⟨d10, Or.inr ⟨j2, ad2, Or.inl ⟨e, g3, rfl⟩⟩⟩⟩))
              exact expect_b o3 (fun s4 b4 => one102_zb b4 (fun s5 b5 => up s5 _ gx b5))
            | inr y =>
              obtain ⟨j3, B⟩ := y
              obtain ⟨gd3, c3, A3, lt3, P3⟩ := o3
              have lB := (zl13 (Tz_ok (show d + 1 ≤ 10 by omega) g3).2 hL).1
              have B10 := A3.2.1
              refine expect_v c3 gd3 (by decide) (fun e93 s4 r4 ad4 lk4 f4 => ?_) (fun e93 s4 b4 => ?_)
              · have gx : Tz tx n 1 k d j1 A (r4.map id (fun z => (z.1, ntk k B))) := Tz_on (Or.inr (Or.inr ⟨e91, Or.inr ⟨d10, Or.inr ⟨j2, ad2, Or.inr ⟨j3, B, g3, Or.inr ⟨e93, r4, ad4, rfl⟩⟩⟩⟩⟩))
                refine one102_z (tx := tx) (n := n) (j := j1) (r := r4.map id (fun z => (z.1, B))) k10 ?_ ?_ (fun s5 o5 => up s5 _ gx ?_)
                · cases r4 with
                  | inl e => exact lk4
                  | inr w =>
                    obtain ⟨j4, u4⟩ := w
                    have l4 := adv_le ad4
                    exact ⟨lk4, ctx_lk c3 f4, tat_lk A3 f4, by omega, prg_lk P3 f4⟩
                · intro j' B' e
                  cases r4 with
                  | inl e' => cases e
                  | inr w => cases e; omega
                · cases r4 with
                  | inl e => exact o5
                  | inr w => exact o5
              · have gx : Tz tx n 1 k d j1 A (.inl (2, (j3 : Int))) := Tz_on (Or.inr (Or.inr ⟨e91, Or.inr ⟨d10, Or.inr ⟨j2, ad2, Or.inr ⟨j3, B, g3, Or.inl ⟨e93, rfl⟩⟩⟩⟩⟩))
                exact one102_zb b4 (fun s5 b5 => up s5 _ gx b5)
        · have gx : Tz tx n 1 k d j1 A (.inl (3, (j1 : Int))) := Tz_on (Or.inr (Or.inr ⟨e91, Or.inl ⟨by omega, rfl⟩⟩))
          exact fail_g gd1.1 (by decide) (fun s2 b2 _ => one102_zb b2 (fun s3 b3 => up s3 _ gx b3))
        · refine Or.inr ⟨tx, n, j1, A, c1, gd1, ⟨A1, P1, hL⟩, fun s2 r2 g2 o2 => one102_z k10 o2 (fun j' B e => ?_) (fun s3 o3 => up s3 _ (Tz_on (Or.inr (Or.inl ⟨n126, n91, r2, g2, rfl⟩))) o3)⟩
          subst e
          obtain ⟨x1, x2⟩ := zAT_i g2
          have := tAT_10 x1
          rw [x2, List.length_append]
          show A.2.length + 1 < 160
          omega
      unfold C_readOne7z_4
      rw [show cgf s1 2 3 = nxc tx n j1 from gd1.2.2.1, show cgf s1 2 2 = (j1 : Int) from gd1.2.1]
      refine ⟨fun c => e51 (by rw [nxc_400 (by omega)]; decide), fun c => ⟨fun e => e51 e, fun e126 => ⟨fun c2 => ?_, fun c2 => ?_⟩⟩⟩
      · have kk : k < 10 := by omega
        refine step_v c1 gd1 (nxc_lt (by rw [e126]; decide)) (fun s2 r2 ad2 lk2 f2 => ?_)
        cases r2 with
        | inl e => exact Or.inl ⟨e, lk2, bk _ (Tz_on (Or.inl ⟨e126, Or.inr ⟨kk, Or.inl ⟨e, ad2, rfl⟩⟩⟩))⟩
        | inr z =>
          obtain ⟨j2, u⟩ := z
          have l2 := adv_le ad2
          exact Or.inr ⟨k + 1, t + 1, j2, w32s (by omega), w32s (by omega), by omega, by omega, lk2, ctx_lk c1 f2, ⟨tat_lk A1 f2, prg_lk P1 f2⟩, by omega, fun r g => bk r (Tz_on (Or.inl ⟨e126, Or.inr ⟨kk, Or.inr ⟨j2, ad2, g⟩⟩⟩))⟩
      · exact fail_g gd1.1 (by decide) (fun s2 b2 _ => Or.inl ⟨(3, (j1 : Int)), b2, bk _ (Tz_on (Or.inl ⟨e126, Or.inl ⟨by omega, rfl⟩⟩))⟩)
theorem readAll_z {l1 : Int} {s : im_S} {Q : im_S → Prop} (hC : CZt 2 l1 s Q) : C_readAll7z l1 s Q := by
  rcases hC with ⟨e, h, hQ⟩ | ⟨tx, n, j, d, A, hc, h, ⟨hA, hP, hL⟩, rfl, hd, hQ⟩
  · refine CZt_b h (fun s1 b1 => ⟨fun q => bdS q.2 e, b1, ?_⟩)
    rintro ⟨x, s2⟩ b2
    dsimp only at b2 ⊢
    refine ⟨fun _ => hQ s2 b2, fun _ => ⟨fun _ => hQ s2 b2, fun z => ?_⟩⟩
    rw [show cgf s2 2 3 = 1 from b2.2.2.2] at z; exact absurd z (by decide)
  · have n400 := hc.2.1
    refine CZt_g hc h ⟨hA, hP, hL⟩ hd (fun s1 r1 g1 o1 => ?_)
    refine ⟨fun q => (∃ e, bdS q.2 e ∧ Tz tx n 2 0 d j A (.inl e)) ∨ ∃ (t j2 : Nat) (B : atz), q.1 = (t : Int) ∧ t ≤ j2 ∧ gdS tx n q.2 j2 ∧ ctx tx n q.2 ∧ (tat q.2 B.1 ∧ prg q.2 B.2 ∧ B.2.length ≤ 13 * B.1.length) ∧ j < j2 ∧ ∀ r, Tz tx n 3 0 d j2 B r → Tz tx n 2 0 d j A r, ?_, ?_⟩
    · cases r1 with
      | inl e => exact Or.inl ⟨e, o1, Tz_al (Or.inl ⟨e, g1, rfl⟩)⟩
      | inr z =>
        obtain ⟨j1, B⟩ := z
        obtain ⟨o1, o2, o3, o4, o5⟩ := o1
        exact Or.inr ⟨0, j1, B, rfl, by omega, o1, o2, ⟨o3, o5, (zl13 (Tz_ok hd g1).2 hL).1⟩, o4, fun r g => Tz_al (Or.inr ⟨j1, B, g1, g⟩)⟩
    · rintro ⟨x, s2⟩ hI
      dsimp only at hI ⊢
      rcases hI with ⟨e, b2, g2⟩ | ⟨t, j2, B, ex, tj, gd2, c2, ⟨A2, P2, L2⟩, lt2, bk⟩
      · refine ⟨fun _ => hQ s2 _ g2 b2, fun _ => ⟨fun _ => hQ s2 _ g2 b2, fun z => ?_⟩⟩
        rw [show cgf s2 2 3 = 1 from b2.2.2.2] at z; exact absurd z (by decide)
      · subst ex
        have fin : nxc tx n j2 ≠ 38 → Q s2 := fun e => hQ s2 (.inr (j2, B)) (bk _ (Tz_ar (Or.inl ⟨e, rfl⟩))) ⟨gd2, c2, A2, lt2, P2⟩
        unfold C_readAll7z_7
        rw [show cgf s2 2 3 = nxc tx n j2 from gd2.2.2.1]
        refine ⟨fun c => fin (by rw [nxc_400 (by omega)]; decide), fun c => ⟨fun e => fin e, fun e38 => ?_⟩⟩
        refine step_v c2 gd2 (nxc_lt (by rw [e38]; decide)) (fun s3 r3 ad3 lk3 f3 => ?_)
        cases r3 with
        | inl e => exact CZt_b lk3 (fun s4 b4 => emit_b b4 (fun s5 b5 => Or.inl ⟨e, b5, bk _ (Tz_ar (Or.inr ⟨e38, Or.inl ⟨e, ad3, rfl⟩⟩))⟩))
        | inr z =>
          obtain ⟨j3, u⟩ := z
          have l3 := adv_le ad3
          refine CZt_g (ctx_lk c2 f3) lk3 ⟨tat_lk A2 f3, prg_lk P2 f3, L2⟩ hd (fun s4 r4 g4 o4 => ?_)
          cases r4 with
          | inl e => exact emit_b o4 (fun s5 b5 => Or.inl ⟨e, b5, bk _ (Tz_ar (Or.inr ⟨e38, Or.inr ⟨j3, ad3, Or.inl ⟨e, g4, rfl⟩⟩⟩))⟩)
          | inr y =>
            obtain ⟨j4, B4, l4⟩ := y
            obtain ⟨L4, L4'⟩ := zl13 (Tz_ok hd g4).2 L2
            have L4'' := L4' (by omega)
            have b10 : B4.length ≤ 10 := o4.2.2.1.2.1
            dsimp only at L4 L4''
            refine emit_z o4.2.2.2.2 (by dsimp only; omega) (fun s5 f5 p5' => ?_)
            obtain ⟨p1, p2, p3, p4, p5⟩ := zcO_em o4 f5 p5'
            exact Or.inr ⟨t + 1, j4, psh (11 : Int) (B4, l4), w32s (by omega), by omega, p1, p2, ⟨p3, p5, by show (l4 ++ [(11 : Int)]).length ≤ 13 * B4.length; rw [List.length_append]; exact L4''⟩, by omega, fun r g => bk r (Tz_ar (Or.inr ⟨e38, Or.inr ⟨j3, ad3, Or.inr ⟨j4, (B4, l4), g4, g⟩⟩⟩))⟩
theorem readText_z {l1 : Int} {s : im_S} {Q : im_S → Prop} (hC : CZt 4 l1 s Q) : C_readText7z l1 s Q := by
  rcases hC with ⟨e, h, hQ⟩ | ⟨tx, n, j, d, A, hc, h, ⟨hA, hP, hL⟩, rfl, hd, hQ⟩
  · refine CZt_b h (fun s1 b1 => ⟨fun q => bdS q.2 e, b1, ?_⟩)
    rintro ⟨x, s2⟩ b2
    dsimp only at b2 ⊢
    refine ⟨fun _ => hQ s2 b2, fun _ => ⟨fun _ => hQ s2 b2, fun z => ?_⟩⟩
    rw [show cgf s2 2 3 = 1 from b2.2.2.2] at z; exact absurd z (by decide)
  · have n400 := hc.2.1
    refine CZt_g hc h ⟨hA, hP, hL⟩ hd (fun s1 r1 g1 o1 => ?_)
    refine ⟨fun q => (∃ e, bdS q.2 e ∧ Tz tx n 4 0 d j A (.inl e)) ∨ ∃ (t j2 : Nat) (B : atz), q.1 = (t : Int) ∧ t ≤ j2 ∧ gdS tx n q.2 j2 ∧ ctx tx n q.2 ∧ (tat q.2 B.1 ∧ prg q.2 B.2 ∧ B.2.length ≤ 13 * B.1.length) ∧ j < j2 ∧ ∀ r, Tz tx n 5 0 d j2 B r → Tz tx n 4 0 d j A r, ?_, ?_⟩
    · cases r1 with
      | inl e => exact Or.inl ⟨e, o1, Tz_tx (Or.inl ⟨e, g1, rfl⟩)⟩
      | inr z =>
        obtain ⟨j1, B⟩ := z
        obtain ⟨o1, o2, o3, o4, o5⟩ := o1
        exact Or.inr ⟨0, j1, B, rfl, by omega, o1, o2, ⟨o3, o5, (zl13 (Tz_ok hd g1).2 hL).1⟩, o4, fun r g => Tz_tx (Or.inr ⟨j1, B, g1, g⟩)⟩
    · rintro ⟨x, s2⟩ hI
      dsimp only at hI ⊢
      rcases hI with ⟨e, b2, g2⟩ | ⟨t, j2, B, ex, tj, gd2, c2, ⟨A2, P2, L2⟩, lt2, bk⟩
      · refine ⟨fun _ => hQ s2 _ g2 b2, fun _ => ⟨fun _ => hQ s2 _ g2 b2, fun z => ?_⟩⟩
        rw [show cgf s2 2 3 = 1 from b2.2.2.2] at z; exact absurd z (by decide)
      · subst ex
        have fin : nxc tx n j2 ≠ 124 → Q s2 := fun e => hQ s2 (.inr (j2, B)) (bk _ (Tz_tr (Or.inl ⟨e, rfl⟩))) ⟨gd2, c2, A2, lt2, P2⟩
        unfold C_readText7z_7
        rw [show cgf s2 2 3 = nxc tx n j2 from gd2.2.2.1]
        refine ⟨fun c => fin (by rw [nxc_400 (by omega)]; decide), fun c => ⟨fun e => fin e, fun e38 => ?_⟩⟩
        refine step_v c2 gd2 (nxc_lt (by rw [e38]; decide)) (fun s3 r3 ad3 lk3 f3 => ?_)
        cases r3 with
        | inl e => exact CZt_b lk3 (fun s4 b4 => emit_b b4 (fun s5 b5 => Or.inl ⟨e, b5, bk _ (Tz_tr (Or.inr ⟨e38, Or.inl ⟨e, ad3, rfl⟩⟩))⟩))
        | inr z =>
          obtain ⟨j3, u⟩ := z
          have l3 := adv_le ad3
          refine CZt_g (ctx_lk c2 f3) lk3 ⟨tat_lk A2 f3, prg_lk P2 f3, L2⟩ hd (fun s4 r4 g4 o4 => ?_)
          cases r4 with
          | inl e => exact emit_b o4 (fun s5 b5 => Or.inl ⟨e, b5, bk _ (Tz_tr (Or.inr ⟨e38, Or.inr ⟨j3, ad3, Or.inl ⟨e, g4, rfl⟩⟩⟩))⟩)
          | inr y =>
            obtain ⟨j4, B4, l4⟩ := y
            obtain ⟨L4, L4'⟩ := zl13 (Tz_ok hd g4).2 L2
            have L4'' := L4' (by omega)
            have b10 : B4.length ≤ 10 := o4.2.2.1.2.1
            dsimp only at L4 L4''
            refine emit_z o4.2.2.2.2 (by dsimp only; omega) (fun s5 f5 p5' => ?_)
            obtain ⟨p1, p2, p3, p4, p5⟩ := zcO_em o4 f5 p5'
            exact Or.inr ⟨t + 1, j4, psh (12 : Int) (B4, l4), w32s (by omega), by omega, p1, p2, ⟨p3, p5, by show (l4 ++ [(12 : Int)]).length ≤ 13 * B4.length; rw [List.length_append]; exact L4''⟩, by omega, fun r g => bk r (Tz_tr (Or.inr ⟨e38, Or.inr ⟨j3, ad3, Or.inr ⟨j4, (B4, l4), g4, g⟩⟩⟩))⟩
theorem RZ_all (L : Nat) (ys : Nat → Int32) : ∀ d : Nat, RZ L ys d
  | 0 => ⟨fun s hv l1 l1r Q hC res hr => (pc_0 hr).elim, fun s hv l1 l1r Q hC res hr => (pc_0 hr).elim, fun s hv l1 l1r Q hC res hr => (pc_0 hr).elim, fun s hv Q hC res hr => (pc_0 hr).elim, (RV_all L ys 0).2.2.2.2.1, trivial⟩
  | d + 1 => ⟨fun s hv l1 l1r Q hC => c_readText7z L ys d (RZ_all L ys d) s hv l1 l1r Q (readText_z hC),
    fun s hv l1 l1r Q hC => c_readAll7z L ys d (RZ_all L ys d) s hv l1 l1r Q (readAll_z hC),
    fun s hv l1 l1r Q hC => c_readOne7z L ys d (RZ_all L ys d) s hv l1 l1r Q (readOne_z hC),
    fun s hv Q hC => c_readAtom7z L ys d (RZ_all L ys d) s hv Q (readAtom_z hC), (RV_all L ys (d + 1)).2.2.2.2.1, trivial⟩
