theorem index4_any {x : Int} {s : im_S} {Q : Int → im_S → Prop} (hQ : ∀ z, Q z s) : C_J0_indexOf_0f7a4_0_4v x s Q := by
  intro v e
  rw [if_neg (by decide), if_neg (by decide)] at e
  subst e
  refine ⟨fun c => absurd c (by decide), fun _ w ew v2 e2 => ⟨fun _ => max_J (min_J ⟨fun _ => ?_, fun _ => hQ _⟩), fun _ => hQ _⟩⟩
  refine ⟨fun a => a.2 = s, rfl, ?_⟩
  rintro ⟨y, s1⟩ e1
  dsimp only at e1
  subst e1
  exact ⟨fun _ => hQ _, fun _ => ⟨fun _ => rfl, fun _ => hQ _⟩⟩
theorem index4_v {x : Int} {s : im_S} {Q : Int → im_S → Prop} (h0 : 0 ≤ x) (h1 : x ≤ 126) (hQ1 : (x = 61 ∨ x = 60 ∨ x = 62) → ∀ z, 0 ≤ z → z = rlc x → Q z s) (hQ2 : ¬ (x = 61 ∨ x = 60 ∨ x = 62) → Q (-1) s) : C_J0_indexOf_0f7a4_0_4v x s Q := by
  intro v e
  rw [if_neg (by decide), if_neg (by decide)] at e
  subst e
  refine ⟨fun c => absurd c (by decide), fun _ w ew v2 e2 => ?_⟩
  rw [if_neg (by decide)] at ew
  rw [if_neg (by omega), if_neg (by omega)] at e2
  subst e2
  subst ew
  have e3 : shrI 3 0 = 3 := by decide +kernel
  rw [e3]
  have t0 : txv 5 0 = 61 := by decide +kernel
  have t1 : txv 5 1 = 60 := by decide +kernel
  have t2 : txv 5 2 = 62 := by decide +kernel
  refine ⟨fun _ => max_J (min_J ⟨fun _ => ?_, fun c => absurd (show max (0 : Int) 0 < min 3 3 by decide) c⟩), fun c => absurd c (by decide)⟩
  refine ⟨fun a => a.2 = s ∧ ((a.1 = 0) ∨ (a.1 = 1 ∧ x ≠ 61) ∨ (a.1 = 2 ∧ x ≠ 61 ∧ x ≠ 60) ∨ (a.1 = 3 ∧ x ≠ 61 ∧ x ≠ 60 ∧ x ≠ 62)), ⟨rfl, Or.inl rfl⟩, ?_⟩
  rintro ⟨y, s1⟩ ⟨e1, hI⟩
  dsimp only at e1 hI
  subst e1
  rw [c8_id h0 h1]
  rcases hI with ey | ⟨ey, n1⟩ | ⟨ey, n1, n2⟩ | ⟨ey, n1, n2, n3⟩ <;> subst ey
  · refine ⟨fun c => absurd (show min (3 : Int) 3 ≤ 0 from c) (by decide), fun c => ⟨fun z => ⟨rfl, Or.inr (Or.inl ⟨?_, fun q => z ?_⟩)⟩, fun z => ?_⟩⟩
    · exact (w32_id (by decide) (by decide) : w32 ((0 : Int) + 1) = 0 + 1)
    · rw [t0, q]
    · rw [t0] at z
      exact hQ1 (Or.inl z.symm) 0 (by decide) (by rw [← z]; rfl)
  · refine ⟨fun c => absurd (show min (3 : Int) 3 ≤ 1 from c) (by decide), fun c => ⟨fun z => ⟨rfl, Or.inr (Or.inr (Or.inl ⟨?_, n1, fun q => z ?_⟩))⟩, fun z => ?_⟩⟩
    · exact (w32_id (by decide) (by decide) : w32 ((1 : Int) + 1) = 1 + 1)
    · rw [t1, q]
    · rw [t1] at z
      exact hQ1 (Or.inr (Or.inl z.symm)) 1 (by decide) (by rw [← z]; rfl)
  · refine ⟨fun c => absurd (show min (3 : Int) 3 ≤ 2 from c) (by decide), fun c => ⟨fun z => ⟨rfl, Or.inr (Or.inr (Or.inr ⟨?_, n1, n2, fun q => z ?_⟩))⟩, fun z => ?_⟩⟩
    · exact (w32_id (by decide) (by decide) : w32 ((2 : Int) + 1) = 2 + 1)
    · rw [t2, q]
    · rw [t2] at z
      exact hQ1 (Or.inr (Or.inr z.symm)) 2 (by decide) (by rw [← z]; rfl)
  · exact ⟨fun _ => hQ2 (fun q => by omega), fun c => absurd (show min (3 : Int) 3 ≤ 3 by decide) c⟩
theorem readAtom_w {s : im_S} {Q : im_S → Prop} (hC : CV_readAtom s Q) : C_readAtom7v s Q := by
  have bad79 : ∀ (l : Int) (e : Int × Int) (s1 : im_S), bdS s1 e → Q s1 → C_readAtom7v_79 l s1 Q := fun l e s1 b q => ⟨fun _ => q, fun c => absurd (b.1.symm.trans c) b.2.1⟩
  rcases hC with ⟨e, h, hQ⟩ | ⟨tx, n, j, A, hc, h, hA, hQ⟩
  · refine CVp_b h (fun s1 b1 => index4_any (fun z => ⟨fun _ => ⟨fun _ => step_b b1 (fun s2 b2 => CVp_b b2 (fun s3 b3 => slot_b (fun a1 => slot_b (fun a2 => addTo_b b3 (fun s4 b4 => bad79 _ e s4 b4 (hQ s4 b4)))))), fun _ => fail_bd b1 (fun s2 b2 => bad79 _ e s2 b2 (hQ s2 b2))⟩, fun _ => fail_bd b1 (fun s2 b2 => bad79 _ e s2 b2 (hQ s2 b2))⟩))
  · refine CVp_g (a := 0) (d := 0) hc h (by omega) (by omega) (fun s1 r1 g1 o1 => ?_)
    cases r1 with
    | inl e =>
      have gx : tAT tx n j A (.inl e) := Or.inl ⟨e, g1, rfl⟩
      have b1 : bdS s1 e := o1
      exact index4_any (fun z => ⟨fun _ => ⟨fun _ => step_b b1 (fun s2 b2 => CVp_b b2 (fun s3 b3 => slot_b (fun a1 => slot_b (fun a2 => addTo_b b3 (fun s4 b4 => bad79 _ e s4 b4 (hQ s4 _ gx b4)))))), fun _ => fail_bd b1 (fun s2 b2 => bad79 _ e s2 b2 (hQ s2 _ gx b2))⟩, fun _ => fail_bd b1 (fun s2 b2 => bad79 _ e s2 b2 (hQ s2 _ gx b2))⟩)
    | inr z =>
      obtain ⟨j1, P⟩ := z
      obtain ⟨gd1, lt1, p1, fn1, v1⟩ := o1
      have c1 := ctx_vf hc v1
      have A1 := tat_vf hA v1
      have b126 : 0 ≤ nxc tx n j1 ∧ nxc tx n j1 ≤ 126 := by
        unfold nxc
        split
        · rename_i l; have := hc.2.2.2 j1 l; omega
        · decide
      rw [show cgf s1 2 3 = nxc tx n j1 from gd1.2.2.1, c16_id b126.1 b126.2]
      refine index4_v b126.1 b126.2 (fun hr z z0 ez => ⟨fun _ => ?_, fun q => absurd z0 q⟩) (fun hr => ⟨fun q => absurd q (by decide), fun _ => ?_⟩)
      · rw [show cgf s1 2 11 = (A.length : Int) from A1.1, show cgf s1 2 2 = (j1 : Int) from gd1.2.1]
        refine ⟨fun c => ?_, fun c => ?_⟩
        · have al : A.length < 10 := by omega
          refine step_v c1 gd1 (nxc_lt (by rcases hr with q | q | q <;> rw [q] <;> decide)) (fun s2 r2 ad2 lk2 f2 => ?_)
          cases r2 with
          | inl e =>
            have gx : tAT tx n j A (.inl e) := Or.inr ⟨j1, P, g1, Or.inr ⟨hr, Or.inr ⟨al, Or.inl ⟨e, ad2, rfl⟩⟩⟩⟩
            exact CVp_b lk2 (fun s3 b3 => slot_b (fun a1 => slot_b (fun a2 => addTo_b b3 (fun s4 b4 => bad79 _ e s4 b4 (hQ s4 _ gx b4)))))
          | inr y =>
            obtain ⟨j2, u⟩ := y
            have l2 := adv_le ad2
            refine CVp_g (a := 1) (d := 0) (ctx_lk c1 f2) lk2 (by omega) (by omega) (fun s3 r3 g3 o3 => ?_)
            cases r3 with
            | inl e =>
              have gx : tAT tx n j A (.inl e) := Or.inr ⟨j1, P, g1, Or.inr ⟨hr, Or.inr ⟨al, Or.inr ⟨j2, ad2, Or.inl ⟨e, g3, rfl⟩⟩⟩⟩⟩
              exact slot_b (fun a1 => slot_b (fun a2 => addTo_b o3 (fun s4 b4 => bad79 _ e s4 b4 (hQ s4 _ gx b4))))
            | inr x =>
              obtain ⟨j3, R⟩ := x
              obtain ⟨gd3, lt3, p3, fn3, v3⟩ := o3
              have pa : slp s3 (5 + 2 * 0) P := slp_fr (slp_fr p1 f2 (by omega) (fun z => z)) v3 (by omega) (by omega)
              have c3 := ctx_vf (ctx_lk c1 f2) v3
              have A3 := tat_vf (tat_lk A1 f2) v3
              refine slot_v (a := 0) (by omega) (slot_v (a := 1) (by omega) (addTo_v ⟨by omega, by omega⟩ ⟨by omega, by omega⟩ (by omega) gd3.1 pa p3 fn1 fn3 (Or.inr rfl) (fun m hm s4 p4 fn4 f4 => ?_) (fun hm s4 b4 => bad79 _ _ s4 b4 (hQ s4 _ (Or.inr ⟨j1, P, g1, Or.inr ⟨hr, Or.inr ⟨al, Or.inr ⟨j2, ad2, Or.inr ⟨j3, R, g3, Or.inl ⟨hm, rfl⟩⟩⟩⟩⟩⟩) b4))))
              have gd4 := gdS_fr gd3 f4 (fun k => by omega)
              have c4 : ctx tx n s4 := ctx_fr c3 f4 (by omega) (by omega)
              have A4 : tat s4 A := tat_fr A3 f4 (by omega) (fun i hi => by omega) (fun i hi => by omega) (by omega)
              have gx : tAT tx n j A (.inr (j3, A ++ [(m, rlc (nxc tx n j1))])) := Or.inr ⟨j1, P, g1, Or.inr ⟨hr, Or.inr ⟨al, Or.inr ⟨j2, ad2, Or.inr ⟨j3, R, g3, Or.inr ⟨m, hm, rfl⟩⟩⟩⟩⟩⟩
              unfold C_readAtom7v_79
              rw [show cgf s4 2 11 = (A.length : Int) from A4.1]
              refine ⟨fun q => absurd gd4.1 q, fun _ => ⟨fun q => by omega, fun _ => ?_⟩⟩
              refine slot_v (a := 0) (by omega) ?_
              rw [Int.toNat_natCast]
              refine copy6_b (F := pmk 9 m) p4 (by omega) (fun s5 p5 f5 _ s6 e6 => ?_)
              have n5 : cgf s5 2 11 = (A.length : Int) := by show s5.1 2 11 = _; rw [f5.1 _ _ (by omega)]; exact A4.1
              rw [n5] at e6
              have f6 : gfr (fun _ _ => False) (fun c => c = 81) s5 s6 := by subst e6; exact gfr_pa (gfr_refl _ _ _) rfl
              refine emit_v (fun s7 f7 s8 e8 => ?_)
              have n7 : cgf s7 2 11 = (A.length : Int) := by show s7.1 2 11 = _; rw [f7.1 _ _ (by omega), f6.1 _ _ (fun z => z)]; exact n5
              rw [n7, w32s (by omega)] at e8
              have f8 : gfr (fun c f => c = 2 ∧ f = 11) (fun _ => False) s7 s8 := by subst e8; exact gfr_pf (gfr_refl _ _ _) ⟨rfl, rfl⟩
              refine hQ s8 _ gx ⟨?_, ?_, ⟨?_, ?_, fun i p w e => ?_⟩, by omega⟩
              · have g7 := gdS_em (gdS_fr (gdS_fr gd4 f5 (fun k => by omega)) f6 (fun k => fun z => z)) f7
                obtain ⟨a1, a2, a3, a4⟩ := g7
                exact ⟨by rw [f8.1 _ _ (by omega)]; exact a1, by rw [f8.1 _ _ (by omega)]; exact a2, by rw [f8.1 _ _ (by omega)]; exact a3, a4⟩
              · exact ctx_fr (ctx_fr (ctx_fr (ctx_fr c4 f5 (by omega) (by omega)) f6 (fun z => z) (by omega)) f7 (by omega) (by omega)) f8 (by omega) (fun z => z)
              · subst e8; rw [cpf_same, List.length_append]; rfl
              · rw [List.length_append]; show A.length + 1 ≤ 10; omega
              · by_cases ci : i < A.length
                · rw [List.getElem?_append_left ci] at e
                  obtain ⟨x1, x2, x3⟩ := A4.2.2 i p w e
                  refine ⟨slp_fr (slp_fr (slp_fr (slp_fr x1 f5 (by omega) (by omega)) f6 (fun z => z) (by omega)) f7 (by omega) (by omega)) f8 (by omega) (fun z => z), x2, ?_⟩
                  rw [f8.2 _ (fun z => z), f7.2 _ (by omega)]
                  subst e6
                  rw [cpa_row, if_neg (by omega), f5.2 _ (by omega)]
                  exact x3
                · have ei : i = A.length := by
                    by_cases q : i < A.length + 1
                    · omega
                    · rw [List.getElem?_eq_none (by rw [List.length_append]; show A.length + 1 ≤ i; omega)] at e; cases e
                  subst ei
                  rw [List.getElem?_append_right (Nat.le_refl _), Nat.sub_self] at e
                  cases e
                  refine ⟨slp_fr (slp_fr (slp_fr p5 f6 (fun z => z) (by omega)) f7 (by omega) (by omega)) f8 (by omega) (fun z => z), fn4, ?_⟩
                  rw [f8.2 _ (fun z => z), f7.2 _ (by omega)]
                  subst e6
                  rw [cpa_row, if_pos (by omega)]
                  exact ez
        · exact fail_g gd1.1 (by decide) (fun s2 b2 _ => bad79 _ _ s2 b2 (hQ s2 _ (Or.inr ⟨j1, P, g1, Or.inr ⟨hr, Or.inl ⟨by omega, rfl⟩⟩⟩) b2))
      · rw [show cgf s1 2 2 = (j1 : Int) from gd1.2.1]
        exact fail_g gd1.1 (by decide) (fun s2 b2 _ => bad79 _ _ s2 b2 (hQ s2 _ (Or.inr ⟨j1, P, g1, Or.inl ⟨hr, rfl⟩⟩) b2))
