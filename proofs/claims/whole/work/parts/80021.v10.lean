theorem nxc_400 {tx : Nat → Int} {n j : Nat} (h : n ≤ j) : nxc tx n j = 0 := by
  unfold nxc
  rw [if_neg (by omega)]
theorem readTerm_w {l1 l2 : Int} {s : im_S} {Q : im_S → Prop} (hC : CVp 2 2 l1 l2 s Q) : C_readTerm7v l1 l2 s Q := by
  rcases hC with ⟨e, h, hQ⟩ | ⟨tx, n, j, a, d, hc, h, rfl, rfl, hd, ha, hQ⟩
  · refine CVp_b h (fun s1 b1 => ⟨fun q => bdS q.2 e, b1, ?_⟩)
    rintro ⟨x, s2⟩ b2
    dsimp only at b2 ⊢
    refine ⟨fun _ => hQ s2 b2, fun _ => ⟨fun _ => hQ s2 b2, fun z => ?_⟩⟩
    rw [show cgf s2 2 3 = 1 from b2.2.2.2] at z; exact absurd z (by decide)
  · have n400 := hc.2.1
    refine CVp_g hc h hd (by omega) (fun s1 r1 g1 o1 => ?_)
    refine ⟨fun q => (∃ e, bdS q.2 e ∧ Gx tx n 2 poX d j (.inl e)) ∨ ∃ (t j2 : Nat) (P : po), q.1 = (t : Int) ∧ t ≤ j2 ∧ gdS tx n q.2 j2 ∧ j < j2 ∧ slp q.2 (5 + 2 * a) P ∧ fin9 P ∧ vfr a s q.2 ∧ ∀ r, Gx tx n 3 P d j2 r → Gx tx n 2 poX d j r, ?_, ?_⟩
    · cases r1 with
      | inl e => exact Or.inl ⟨e, o1, Gx_te (Or.inl ⟨e, g1, rfl⟩)⟩
      | inr z =>
        obtain ⟨j1, P⟩ := z
        obtain ⟨gd1, lt1, p1, fn1, v1⟩ := o1
        exact Or.inr ⟨0, j1, P, rfl, by omega, gd1, lt1, p1, fn1, v1, fun r g => Gx_te (Or.inr ⟨j1, P, g1, g⟩)⟩
    · rintro ⟨x, s2⟩ hI
      dsimp only at hI ⊢
      rcases hI with ⟨e, b2, g2⟩ | ⟨t, j2, P, ex, tj, gd2, lt2, p2, fn2, v2, bk⟩
      · refine ⟨fun _ => hQ s2 _ g2 b2, fun _ => ⟨fun _ => hQ s2 _ g2 b2, fun z => ?_⟩⟩
        rw [show cgf s2 2 3 = 1 from b2.2.2.2] at z; exact absurd z (by decide)
      · subst ex
        have c2 := ctx_vf hc v2
        have fin : nxc tx n j2 ≠ 42 → Q s2 := fun e => hQ s2 (.inr (j2, P)) (bk _ (Gx_tl (Or.inl ⟨e, rfl⟩))) ⟨gd2, lt2, p2, fn2, v2⟩
        unfold C_readTerm7v_8
        rw [show cgf s2 2 3 = nxc tx n j2 from gd2.2.2.1, show cgf s2 2 2 = (j2 : Int) from gd2.2.1]
        refine ⟨fun c => fin (by rw [nxc_400 (by omega)]; decide), fun c => ⟨fun e => fin e, fun e42 => ?_⟩⟩
        have j2n : j2 < n := nxc_lt (by rw [e42]; decide)
        rw [w32s (show a ≤ 1000 by omega)]
        refine step_v c2 gd2 j2n (fun s3 r3 ad3 lk3 f3 => ?_)
        cases r3 with
        | inl e => exact CVp_b lk3 (fun s4 b4 => slot_b (fun a1 => slot_b (fun a2 => multiply_bd b4 (fun s5 b5 => Or.inl ⟨e, b5, bk _ (Gx_tl (Or.inr ⟨e42, Or.inl ⟨e, ad3, rfl⟩⟩))⟩))))
        | inr z =>
          obtain ⟨j3, u⟩ := z
          have l3 := adv_le ad3
          refine CVp_g (ctx_lk c2 f3) lk3 hd (by omega) (fun s4 r4 g4 o4 => ?_)
          cases r4 with
          | inl e => exact slot_b (fun a1 => slot_b (fun a2 => multiply_bd o4 (fun s5 b5 => Or.inl ⟨e, b5, bk _ (Gx_tl (Or.inr ⟨e42, Or.inr ⟨j3, ad3, Or.inl ⟨e, g4, rfl⟩⟩⟩))⟩)))
          | inr y =>
            obtain ⟨j4, R⟩ := y
            obtain ⟨gd4, lt4, p4, fn4, v4⟩ := o4
            have pa : slp s4 (5 + 2 * a) P := slp_fr (slp_fr p2 f3 (by omega) (fun z => z)) v4 (by omega) (by omega)
            refine slot_v (by omega) (slot_v (by omega) (multiply_v ⟨by omega, by omega⟩ ⟨by omega, by omega⟩ gd4.1 pa p4 fn2 fn4 (fun m hm s5 p5 fn5 f5 => Or.inr ⟨t + 1, j4, m, w32s (by omega), by omega, gdS_fr gd4 f5 (fun k => by omega), by omega, p5, fn5, ?_, fun r g => bk r (Gx_tl (Or.inr ⟨e42, Or.inr ⟨j3, ad3, Or.inr ⟨j4, R, g4, Or.inr ⟨m, hm, g⟩⟩⟩⟩))⟩) (fun hm s5 b5 => Or.inl ⟨(3, (j2 : Int)), b5, bk _ (Gx_tl (Or.inr ⟨e42, Or.inr ⟨j3, ad3, Or.inr ⟨j4, R, g4, Or.inl ⟨hm, rfl⟩⟩⟩⟩))⟩)))
            exact gfr_trans (vfr_tr (vfr_tr v2 (vfr_lk (a := a) f3) (Nat.le_refl _)) v4 (by omega)) (gfr_mono f5 (fun c f e => by omega) (fun c e => by omega))
theorem readSum_w {l1 l2 : Int} {s : im_S} {Q : im_S → Prop} (hC : CVp 4 1 l1 l2 s Q) : C_readSum7v l1 l2 s Q := by
  rcases hC with ⟨e, h, hQ⟩ | ⟨tx, n, j, a, d, hc, h, rfl, rfl, hd, ha, hQ⟩
  · have e41 : ∀ s1, bdS s1 e → C_readSum7v_41 l1 l2 s1 Q := fun s1 b1 => by
      refine ⟨fun q => bdS q.2 e, b1, ?_⟩
      rintro ⟨x, s2⟩ b2
      dsimp only at b2 ⊢
      have n1 : cgf s2 2 3 = 1 := b2.2.2.2
      refine ⟨fun _ => hQ s2 b2, fun _ => ⟨fun z => ?_, fun _ => ⟨fun _ => hQ s2 b2, fun z => ?_⟩⟩⟩
      · rw [n1] at z; exact absurd z (by decide)
      · rw [n1] at z; exact absurd z (by decide)
    intro v ev
    rw [show cgf s 2 3 = 1 from h.2.2.2, if_pos (by decide)] at ev
    subst ev
    exact ⟨fun _ => CVp_b h (fun s1 b1 => ⟨fun _ => e41 s1 b1, fun z => absurd (by decide) z⟩), fun z => absurd (by decide) z⟩
  · have n400 := hc.2.1
    have e41 : ∀ (s1 : im_S) (j1 : Nat) (P : po), gdS tx n s1 j1 → j < j1 → slp s1 (5 + 2 * a) P → fin9 P → vfr a s s1 → (∀ r, Gx tx n 5 P d j1 r → Gx tx n 4 poX d j r) → C_readSum7v_41 (a : Int) (d : Int) s1 Q := fun s1 j1 P gd1 lt1 p1 fn1 v1 bk1 => by
      refine ⟨fun q => (∃ e, bdS q.2 e ∧ Gx tx n 4 poX d j (.inl e)) ∨ ∃ (t j2 : Nat) (P : po), q.1 = (t : Int) ∧ t ≤ j2 ∧ gdS tx n q.2 j2 ∧ j < j2 ∧ slp q.2 (5 + 2 * a) P ∧ fin9 P ∧ vfr a s q.2 ∧ ∀ r, Gx tx n 5 P d j2 r → Gx tx n 4 poX d j r, Or.inr ⟨0, j1, P, rfl, by omega, gd1, lt1, p1, fn1, v1, bk1⟩, ?_⟩
      rintro ⟨x, s2⟩ hI
      dsimp only at hI ⊢
      rcases hI with ⟨e, b2, g2⟩ | ⟨t, j2, P, ex, tj, gd2, lt2, p2, fn2, v2, bk⟩
      · have n1 : cgf s2 2 3 = 1 := b2.2.2.2
        refine ⟨fun _ => hQ s2 _ g2 b2, fun _ => ⟨fun z => ?_, fun _ => ⟨fun _ => hQ s2 _ g2 b2, fun z => ?_⟩⟩⟩
        · rw [n1] at z; exact absurd z (by decide)
        · rw [n1] at z; exact absurd z (by decide)
      · subst ex
        have c2 := ctx_vf hc v2
        have fin : nxc tx n j2 ≠ 43 → nxc tx n j2 ≠ 45 → Q s2 := fun e e' => hQ s2 (.inr (j2, P)) (bk _ (Gx_sl (Or.inl ⟨⟨e, e'⟩, rfl⟩))) ⟨gd2, lt2, p2, fn2, v2⟩
        have e70 : (nxc tx n j2 = 43 ∨ nxc tx n j2 = 45) → ∀ K : Int × im_S → Prop, (∀ q : Int × im_S, ((∃ e, bdS q.2 e ∧ Gx tx n 4 poX d j (.inl e)) ∨ ∃ (t j2 : Nat) (P : po), q.1 = (t : Int) ∧ t ≤ j2 ∧ gdS tx n q.2 j2 ∧ j < j2 ∧ slp q.2 (5 + 2 * a) P ∧ fin9 P ∧ vfr a s q.2 ∧ ∀ r, Gx tx n 5 P d j2 r → Gx tx n 4 poX d j r) → K q) → C_readSum7v_70 K (a : Int) (d : Int) (t : Int) s2 Q := fun e43 K hK => by
          have j2n : j2 < n := nxc_lt (by rcases e43 with z | z <;> rw [z] <;> decide)
          intro v ev
          rw [show cgf s2 2 3 = nxc tx n j2 from gd2.2.2.1] at ev
          have ev : v = if nxc tx n j2 = 45 then -1 else 1 := by
            by_cases z : nxc tx n j2 = 45
            · rw [if_neg (fun k => k z)] at ev; rw [if_pos z]; exact ev
            · rw [if_pos z] at ev; rw [if_neg z]; exact ev
          have hv : v = 1 ∨ v = -1 := by rw [ev]; split; exact Or.inr rfl; exact Or.inl rfl
          rw [show cgf s2 2 2 = (j2 : Int) from gd2.2.1, w32s (show a ≤ 1000 by omega)]
          refine step_v c2 gd2 j2n (fun s3 r3 ad3 lk3 f3 => ?_)
          cases r3 with
          | inl e => exact CVp_b lk3 (fun s4 b4 => slot_b (fun a1 => slot_b (fun a2 => addTo_b b4 (fun s5 b5 => hK _ (Or.inl ⟨e, b5, bk _ (Gx_sl (Or.inr ⟨e43, Or.inl ⟨e, ad3, rfl⟩⟩))⟩)))))
          | inr z =>
            obtain ⟨j3, u⟩ := z
            have l3 := adv_le ad3
            refine CVp_g (ctx_lk c2 f3) lk3 hd (by omega) (fun s4 r4 g4 o4 => ?_)
            cases r4 with
            | inl e => exact slot_b (fun a1 => slot_b (fun a2 => addTo_b o4 (fun s5 b5 => hK _ (Or.inl ⟨e, b5, bk _ (Gx_sl (Or.inr ⟨e43, Or.inr ⟨j3, ad3, Or.inl ⟨e, g4, rfl⟩⟩⟩))⟩))))
            | inr y =>
              obtain ⟨j4, R⟩ := y
              obtain ⟨gd4, lt4, p4, fn4, v4⟩ := o4
              have pa : slp s4 (5 + 2 * a) P := slp_fr (slp_fr p2 f3 (by omega) (fun z => z)) v4 (by omega) (by omega)
              refine slot_v (by omega) (slot_v (by omega) (addTo_v ⟨by omega, by omega⟩ ⟨by omega, by omega⟩ (by omega) gd4.1 pa p4 fn2 fn4 hv (fun m hm s5 p5 fn5 f5 => hK _ (Or.inr ⟨t + 1, j4, m, w32s (by omega), by omega, gdS_fr gd4 f5 (fun k => by omega), by omega, p5, fn5, ?_, fun r g => bk r (Gx_sl (Or.inr ⟨e43, Or.inr ⟨j3, ad3, Or.inr ⟨j4, R, g4, Or.inr ⟨m, by rw [← ev]; exact hm, g⟩⟩⟩⟩))⟩)) (fun hm s5 b5 => hK _ (Or.inl ⟨(3, (j2 : Int)), b5, bk _ (Gx_sl (Or.inr ⟨e43, Or.inr ⟨j3, ad3, Or.inr ⟨j4, R, g4, Or.inl ⟨by rw [← ev]; exact hm, rfl⟩⟩⟩⟩))⟩))))
              exact gfr_trans (vfr_tr (vfr_tr v2 (vfr_lk (a := a) f3) (Nat.le_refl _)) v4 (by omega)) (gfr_mono f5 (fun c f e => by omega) (fun c e => by omega))
        unfold C_readSum7v_44
        rw [show cgf s2 2 3 = nxc tx n j2 from gd2.2.2.1]
        refine ⟨fun c => fin (by rw [nxc_400 (by omega)]; decide) (by rw [nxc_400 (by omega)]; decide), fun c => ⟨fun e => e70 (Or.inl e) _ (fun q hq => hq), fun e => ⟨fun e' => fin e e', fun e' => e70 (Or.inr e') _ (fun q hq => hq)⟩⟩⟩
    intro v ev
    rw [show cgf s 2 3 = nxc tx n j from h.2.2.1] at ev
    by_cases e45 : nxc tx n j = 45
    · rw [if_neg (fun k => k e45)] at ev
      subst ev
      refine ⟨fun z => absurd z (by decide), fun _ => ?_⟩
      refine step_v hc h (nxc_lt (by rw [e45]; decide)) (fun s1 r1 ad1 lk1 f1 => ?_)
      cases r1 with
      | inl e =>
        refine CVp_b lk1 (fun s2 b2 => ⟨fun z => absurd z (by decide), fun _ => slot_b (fun a1 => negate_b b2 (fun s3 b3 => ?_))⟩)
        have gx : Gx tx n 4 poX d j (.inl e) := Gx_su (Or.inl ⟨e45, Or.inl ⟨e, ad1, rfl⟩⟩)
        refine ⟨fun q => bdS q.2 e, b3, ?_⟩
        rintro ⟨x, s4⟩ b4
        dsimp only at b4 ⊢
        have n1 : cgf s4 2 3 = 1 := b4.2.2.2
        refine ⟨fun _ => hQ s4 _ gx b4, fun _ => ⟨fun z => ?_, fun _ => ⟨fun _ => hQ s4 _ gx b4, fun z => ?_⟩⟩⟩
        · rw [n1] at z; exact absurd z (by decide)
        · rw [n1] at z; exact absurd z (by decide)
      | inr z =>
        obtain ⟨j1, u⟩ := z
        have l1 := adv_le ad1
        refine CVp_g (ctx_lk hc f1) lk1 hd (by omega) (fun s2 r2 g2 o2 => ⟨fun z => absurd z (by decide), fun _ => ?_⟩)
        cases r2 with
        | inl e =>
          have gx : Gx tx n 4 poX d j (.inl e) := Gx_su (Or.inl ⟨e45, Or.inr ⟨j1, ad1, Or.inl ⟨e, g2, rfl⟩⟩⟩)
          refine slot_b (fun a1 => negate_b o2 (fun s3 b3 => ⟨fun q => bdS q.2 e, b3, ?_⟩))
          rintro ⟨x, s4⟩ b4
          dsimp only at b4 ⊢
          have n1 : cgf s4 2 3 = 1 := b4.2.2.2
          refine ⟨fun _ => hQ s4 _ gx b4, fun _ => ⟨fun z => ?_, fun _ => ⟨fun _ => hQ s4 _ gx b4, fun z => ?_⟩⟩⟩
          · rw [n1] at z; exact absurd z (by decide)
          · rw [n1] at z; exact absurd z (by decide)
        | inr y =>
          obtain ⟨j2, P⟩ := y
          obtain ⟨gd2, lt2, p2, fn2, v2⟩ := o2
          refine slot_v (by omega) (negate_v ⟨by omega, by omega⟩ p2 fn2 (fun s3 p3 fn3 f3 => e41 s3 j2 (poN P) (gdS_fr gd2 f3 (fun k => fun z => z)) (by omega) p3 fn3 ?_ (fun r g => Gx_su (Or.inl ⟨e45, Or.inr ⟨j1, ad1, Or.inr ⟨j2, P, g2, g⟩⟩⟩))))
          exact gfr_trans (vfr_tr (vfr_lk (a := a) f1) v2 (Nat.le_refl _)) (gfr_mono f3 (fun c f e => e.elim) (fun c e => by omega))
    · rw [if_pos e45] at ev
      subst ev
      refine ⟨fun _ => ?_, fun z => absurd (by decide) z⟩
      refine CVp_g hc h hd (by omega) (fun s1 r1 g1 o1 => ⟨fun _ => ?_, fun z => absurd (by decide) z⟩)
      cases r1 with
      | inl e =>
        have gx : Gx tx n 4 poX d j (.inl e) := Gx_su (Or.inr ⟨e45, Or.inl ⟨e, g1, rfl⟩⟩)
        refine ⟨fun q => bdS q.2 e, o1, ?_⟩
        rintro ⟨x, s4⟩ b4
        dsimp only at b4 ⊢
        have n1 : cgf s4 2 3 = 1 := b4.2.2.2
        refine ⟨fun _ => hQ s4 _ gx b4, fun _ => ⟨fun z => ?_, fun _ => ⟨fun _ => hQ s4 _ gx b4, fun z => ?_⟩⟩⟩
        · rw [n1] at z; exact absurd z (by decide)
        · rw [n1] at z; exact absurd z (by decide)
      | inr y =>
        obtain ⟨j1, P⟩ := y
        obtain ⟨gd1, lt1, p1, fn1, v1⟩ := o1
        exact e41 s1 j1 P gd1 lt1 p1 fn1 v1 (fun r g => Gx_su (Or.inr ⟨e45, Or.inr ⟨j1, P, g1, g⟩⟩))
