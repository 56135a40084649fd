/-- behind a base with the value p, from i on: its power -/
def pwt (tx : Nat → Int) (n i : Nat) (p : po) (r : ou po) : Prop :=
  (∃ e, adv tx n i (.inl e) ∧ r = .inl e) ∨ ∃ j1, adv tx n i (.inr (j1, ())) ∧ ((nxc tx n j1 ≠ 94 ∧ r = .inr (j1, p)) ∨
  (nxc tx n j1 = 94 ∧ ((∃ e, adv tx n (j1 + 1) (.inl e) ∧ r = .inl e) ∨ ∃ j2, adv tx n (j1 + 1) (.inr (j2, ())) ∧ ((¬ dgt (nxc tx n j2) ∧ r = .inl (2, (j2 : Int))) ∨
  (dgt (nxc tx n j2) ∧ ((∃ e, nmb tx n j2 (.inl e) ∧ r = .inl e) ∨ ∃ (j3 v : Nat), nmb tx n j2 (.inr (j3, (v : Int))) ∧ ((powo p v none ∧ r = .inl (3, (j1 : Int))) ∨ ∃ m, powo p v (some m) ∧ r = .inr (j3, m))))))))
theorem adv_sk {tx : Nat → Int} {n i j : Nat} (h : adv tx n i (.inr (j, ()))) : skp tx n i j ∧ (j < n → tok (tx j)) := by
  obtain ⟨k, sk, ⟨e, t⟩ | ⟨e, _⟩⟩ := h
  · cases e; exact ⟨sk, t⟩
  · cases e
theorem adv_bd {tx : Nat → Int} {n i : Nat} {e : Int × Int} (h : adv tx n i (.inl e)) : ∃ j, skp tx n i j ∧ e = (1, (j : Int)) ∧ j < n ∧ ¬ tok (tx j) := by
  obtain ⟨k, sk, ⟨q, t⟩ | ⟨q, l, t⟩⟩ := h
  · cases q
  · cases q; exact ⟨k, sk, rfl, l, t⟩
theorem nxr_d {tx : Nat → Int} {n j : Nat} : dgt (nxr tx n j) ↔ dgt (nxc tx n j) := by
  unfold nxr nxc
  split
  · exact Iff.rfl
  · constructor <;> intro z <;> exact absurd z.1 (by decide)
/-- what the end of a base leaves at level d: the outcome r of the power, the factors before it -/
def ebR (tx : Nat → Int) (n d : Nat) (tp : Int) (T : po) (s s' : im_S) : ou po → Prop
  | .inl e => rbd s' e
  | .inr (j, m) => (∃ m', e9 m m' ∧ ((tp < 0 ∧ rw9 s' 590 d m' ∧ fin9 m' ∧ rgs tx n s' j ∧ lvf d s s') ∨ (0 ≤ tp ∧ ((mulo T m' none ∧ rbd s' (3, tp)) ∨ ∃ k, mulo T m' (some k) ∧ rw9 s' 590 d k ∧ fin9 k ∧ rgs tx n s' j ∧ lvf d s s')))) ∧ ((s'.1 582 2 = 0) → s'.1 582 21 = (d : Int) ∧ (∀ k, s'.2 589 k = s.2 589 k) ∧ (∀ c k, (c = 593 ∨ c = 594 ∨ c = 595) → s'.2 c k = s.2 c k))
theorem endBase74_r {tx : Nat → Int} {n d j : Nat} {tp : Int} {T m m' : po} {s0 s : im_S} {Q : im_S → Prop} (hd : d ≤ 10) (hj : rgs tx n s j) (dp : s.1 582 21 = (d : Int)) (em : e9 m m') (hB : rw9 s 591 d m') (fB : fin9 m') (htp : rw1 s 595 d tp) (hT : 0 ≤ tp → rw9 s 590 d T ∧ fin9 T) (f0 : lvf d s0 s) (k1 : ∀ k, s.2 589 k = s0.2 589 k) (k2 : ∀ c k, (c = 593 ∨ c = 594 ∨ c = 595) → s.2 c k = s0.2 c k) (hQ : ∀ s', ebR tx n d tp T s0 s' (.inr (j, m)) → Q s') : C_endBase10_74 s Q := by
  refine good_r (fun _ => ⟨fun _ _ => ?_, fun z => absurd z (by decide)⟩) (fun z => absurd hj.1 z)
  rw [show cgf s 582 21 = (d : Int) from dp]
  have y : cga s 595 (d : Int) = tp := by show s.2 595 ((d : Nat) : Int).toNat = _; rw [Int.toNat_natCast]; exact htp
  rw [y]
  refine ⟨fun c _ => ?_, fun c => ?_⟩
  · obtain ⟨hT1, fT⟩ := hT c
    refine multiply_r hd hj.1 dp hT1 hB fT fB (fun k hk s1 r1 fk f1 => hQ s1 ⟨⟨m', em, Or.inr ⟨c, Or.inr ⟨k, hk, r1, fk, ?_, lvf_tr f0 (lvf_rw (rwf_m f1)) (Nat.le_refl _)⟩⟩⟩, fun _ => ⟨by rw [f1.1.1 _ _ (fun z => z)]; exact dp, fun k => by rw [f1.1.2 _ (by omega)]; exact k1 k, fun c k hc => by rw [f1.1.2 _ (by omega)]; exact k2 c k hc⟩⟩) (fun hk s1 b1 => hQ s1 ⟨⟨m', em, Or.inr ⟨c, Or.inl ⟨hk, b1⟩⟩⟩, fun z => absurd (b1.1.symm.trans z) b1.2.1⟩)
    obtain ⟨i, hi, sk⟩ := hj.2
    exact ⟨by rw [f1.1.1 _ _ (fun z => z)]; exact hj.1, i, by rw [f1.1.1 _ _ (fun z => z)]; exact hi, sk⟩
  · refine ⟨fun q => ∃ i : Nat, q.1 = (i : Int) ∧ i ≤ 9 ∧ gfr (fun _ _ => False) (fun c => c = 590) s q.2 ∧ (∀ k, (k < 9 * d ∨ 9 * d + 9 ≤ k) → q.2.2 590 k = s.2 590 k) ∧ ∀ k, k < i → q.2.2 590 (9 * d + k) = m' k, ⟨0, rfl, by omega, gfr_refl _ _ _, fun _ _ => rfl, fun k hk => by omega⟩, ?_⟩
    rintro ⟨x, s1⟩ ⟨i, e, i9, f1, o1, z1⟩
    dsimp only at e f1 o1 z1 ⊢
    subst e
    unfold C_endBase10_96
    rw [show cgf s1 582 21 = (d : Int) by show s1.1 582 21 = _; rw [f1.1 _ _ (fun z => z)]; exact dp, w32_id (x := 9 * (d : Int)) (by omega) (by omega)]
    refine ⟨fun c2 => hQ s1 ⟨⟨m', em, Or.inl ⟨by omega, fun k hk => z1 k (by omega), fB, ?_, lvf_tr f0 ⟨gfr_mono f1 (fun c f e => e.elim) (fun c e => by omega), fun c k hk hc => ?_, fun c k hk hc => by rw [f1.2 _ (by omega)]⟩ (Nat.le_refl _)⟩⟩, fun _ => ⟨by rw [f1.1 _ _ (fun z => z)]; exact dp, fun k => by rw [f1.2 _ (by omega)]; exact k1 k, fun c k hc => by rw [f1.2 _ (by omega)]; exact k2 c k hc⟩⟩, fun c2 _ _ s2 e2 => ?_⟩
    · obtain ⟨i, hi, sk⟩ := hj.2
      exact ⟨by rw [f1.1 _ _ (fun z => z)]; exact hj.1, i, by rw [f1.1 _ _ (fun z => z)]; exact hi, sk⟩
    · by_cases q : c = 590
      · subst q; exact o1 k (by omega)
      · rw [f1.2 _ q]
    · have i8 : i < 9 := by omega
      rw [w32_id (by omega) (by omega)] at e2
      have y1 : cga s1 591 (9 * (d : Int) + (i : Int)) = m' i := by show s1.2 591 (9 * (d : Int) + (i : Int)).toNat = _; rw [show (9 * (d : Int) + (i : Int)).toNat = 9 * d + i by omega, f1.2 _ (by omega)]; exact hB i i8
      rw [y1] at e2
      subst e2
      refine ⟨i + 1, w32s (by omega), by omega, gfr_pa f1 rfl, fun k hk => ?_, fun k hk => ?_⟩
      · rw [cpa_at (m := 9 * d + i) (by omega), if_neg (by omega)]; exact o1 k hk
      · rw [cpa_at (m := 9 * d + i) (by omega)]
        by_cases ck : k = i
        · subst ck; rw [if_pos rfl]
        · rw [if_neg (by omega)]; exact z1 k (by omega)
theorem look_rb {s : im_S} {e : Int × Int} {Q : im_S → Prop} (h : rbd s e) (hQ : ∀ s', rbd s' e → Q s') : C_look10 s Q := by
  refine ⟨fun a => rbd a e, h, fun a ba => ?_⟩
  have e38 : ∀ R : Int → im_S → Prop, (∀ v, R v a) → C_peek10_38 a R := fun R hR v _ => hR v
  have lk : ∀ v, (v = (-1) → C_look10_26 a Q) ∧ (¬ (v = (-1)) → C_isToken10 v a (fun z5 s4 => (¬ (z5 = 0) → C_look10_26 s4 Q) ∧ (z5 = 0 → C_fail10 1 (cgf s4 582 4) s4 (fun s8 => C_look10_26 s8 Q)))) := fun v => ⟨fun _ => hQ a ba, fun _ => isToken_r (fun _ => ⟨fun _ => hQ a ba, fun q => absurd q (by decide)⟩) (fun _ => ⟨fun q => absurd rfl q, fun _ => fail_rb (by rw [ba.1]; exact ba.2.1) (hQ a ba)⟩)⟩
  exact ⟨fun _ => e38 _ lk, fun _ _ => ⟨fun _ => e38 _ lk, fun _ s6 e6 => by subst e6; exact ⟨by rw [cpf_ne (by omega)]; exact ba.1, ba.2.1, by rw [cpf_ne (by omega)]; exact ba.2.2⟩⟩⟩
theorem endBase_r {tx : Nat → Int} {n d i : Nat} {tp : Int} {T p : po} {r : ou po} {s : im_S} {Q : im_S → Prop} (hc : rtx tx n s) (hd : d ≤ 10) (h0 : s.1 582 2 = 0) (hi : s.1 582 4 = (i : Int)) (dp : s.1 582 21 = (d : Int)) (hB : rw9 s 591 d p) (fB : fin9 p) (htp : rw1 s 595 d tp) (hT : 0 ≤ tp → rw9 s 590 d T ∧ fin9 T) (hT0 : ∃ T0, rw9 s 590 d T0) (hr : pwt tx n i p r) (hQ : ∀ s', ebR tx n d tp T s s' r → Q s') : C_endBase10 s Q := by
  have bad74 : ∀ (e : Int × Int) (s1 : im_S), r = .inl e → rbd s1 e → C_endBase10_74 s1 Q := fun e s1 er b1 => good_r (fun z => absurd (b1.1.symm.trans z) b1.2.1) (fun _ => ⟨fun z => absurd rfl z, fun _ => hQ s1 (by rw [er]; exact b1)⟩)
  have pkrow : ∀ {s1 : im_S}, pkf s s1 → rw9 s1 591 d p ∧ rw1 s1 595 d tp ∧ (0 ≤ tp → rw9 s1 590 d T ∧ fin9 T) ∧ s1.1 582 21 = (d : Int) ∧ (∀ k, s1.2 589 k = s.2 589 k) ∧ (∀ c k, (c = 593 ∨ c = 594 ∨ c = 595) → s1.2 c k = s.2 c k) ∧ (∀ T0, rw9 s 590 d T0 → rw9 s1 590 d T0) := fun {s1} f1 => ⟨fun k hk => by rw [f1.2 _ (fun z => z)]; exact hB k hk, by show s1.2 595 d = tp; rw [f1.2 _ (fun z => z)]; exact htp, fun c => ⟨fun k hk => by rw [f1.2 _ (fun z => z)]; exact (hT c).1 k hk, (hT c).2⟩, by rw [f1.1 _ _ (by omega)]; exact dp, fun k => by rw [f1.2 _ (fun z => z)], fun c k _ => by rw [f1.2 _ (fun z => z)], fun T0 h k hk => by rw [f1.2 _ (fun z => z)]; exact h k hk⟩
  rcases hr with ⟨e, ad, er⟩ | ⟨j1, ad, hr⟩
  · refine look_r hc h0 hi ad (fun s1 l1 f1 => good_r (fun z => absurd ((show rbd s1 e from l1).1.symm.trans z) (show rbd s1 e from l1).2.1) (fun _ => ⟨fun _ => bad74 e s1 er l1, fun z => absurd rfl z⟩))
  · refine look_r hc h0 hi ad (fun s1 l1 f1 => ?_)
    obtain ⟨g1, a1⟩ := l1
    have c1 := rtx_pk hc f1
    refine good_r (fun _ => ⟨fun z => absurd z (by decide), fun _ => ?_⟩) (fun z => absurd g1.1 z)
    refine peek_r c1 g1.2 (fun s2 a2 b2 b3 f2 => ?_)
    have c2 := rtx_pk c1 f2
    have f12 := pkf_trans f1 f2
    have z2 : s2.1 582 2 = 0 := b2.trans g1.1
    obtain ⟨R1, R2, R3, R4, R5, R6, R7⟩ := pkrow f12
    have sk1 := (adv_sk ad).1
    rcases hr with ⟨n94, er⟩ | ⟨e94, hr⟩
    · refine ⟨fun _ => endBase74_r hd ⟨z2, j1, a2, skp_s sk1⟩ R4 (e9_refl p) R1 fB R2 R3 (lvf_pk f12) R5 R6 (fun s' o => hQ s' (by rw [er]; exact o)), fun q => absurd ((nxr_c (by decide) (by decide)).mp q) n94⟩
    · refine ⟨fun q => absurd ((nxr_c (by decide) (by decide)).mpr e94) q, fun _ s3 e3 => ?_⟩
      have j1n : j1 < n := nxc_lt (by rw [e94]; decide)
      have n400 := hc.2.1
      rw [show cgf s2 582 4 = (j1 : Int) from a2] at e3 ⊢
      rw [w32s (by omega)] at e3
      have f3 : pkf s s3 := by subst e3; exact pkf_pf f12 (by omega) (by omega)
      have c3 := rtx_pk hc f3
      have z3 : s3.1 582 2 = 0 := by subst e3; rw [cpf_ne (by omega)]; exact z2
      have a3 : s3.1 582 4 = ((j1 + 1 : Nat) : Int) := by subst e3; exact cpf_same _ _ _ _
      rcases hr with ⟨e, ad2, er⟩ | ⟨j2, ad2, hr⟩
      · obtain ⟨j2, sk2, ee, l2, nt⟩ := adv_bd ad2
        refine peek_r c3 ⟨_, a3, sk2⟩ (fun s4 a4 b4 b5 f4 => ?_)
        have nd : ¬ dgt (nxr tx n j2) := fun q => nt (by unfold nxr at q; rw [if_pos l2] at q; exact Or.inl q)
        refine isDigit_r (fun q => absurd q nd) (fun _ => ⟨fun _ => ?_, fun z => absurd rfl z⟩)
        exact cannot_r (rtx_pk c3 f4) ⟨b4.trans z3, j2, a4, skp_s sk2⟩ (fun t => absurd (t l2) nt) (fun _ _ s5 b5 _ => bad74 e s5 er (by rw [ee]; exact b5))
      · obtain ⟨sk2, tk2⟩ := adv_sk ad2
        refine peek_r c3 ⟨_, a3, sk2⟩ (fun s4 a4 b4 b5 f4 => ?_)
        have c4 := rtx_pk c3 f4
        have z4 : s4.1 582 2 = 0 := b4.trans z3
        rcases hr with ⟨nd, er⟩ | ⟨dd, hr⟩
        · refine isDigit_r (fun q => absurd (nxr_d.mp q) nd) (fun _ => ⟨fun _ => ?_, fun z => absurd rfl z⟩)
          exact cannot_r c4 ⟨z4, j2, a4, skp_s sk2⟩ (fun _ s5 b5 _ => bad74 _ s5 er b5) (fun l t => absurd (tk2 l) t)
        · refine isDigit_r (fun _ => ⟨fun z => absurd z (by decide), fun _ => ?_⟩) (fun q => absurd (nxr_d.mpr dd) q)
          have look67 : ∀ (e : Int × Int) (z : Int) (s5 : im_S), r = .inl e → rbd s5 e → C_look10 s5 (fun s37 => (C_good10 s37 (fun z40 s39 => ((z40 = 0 → (C_endBase10_67 s39 Q)) ∧ (¬ (z40 = 0) → (C_raise10 z (j1 : Int) s39 (fun s42 => (C_endBase10_67 s42 Q)))))))) := fun e z s5 er b5 => by
            exact look_rb b5 (fun a ba => good_r (fun q => absurd (ba.1.symm.trans q) ba.2.1) (fun _ => ⟨fun _ => bad74 e a er ba, fun q => absurd rfl q⟩))
          have jn2 := sk2.2.1
          have f34 := pkf_trans f3 f4
          have main : ∀ q, nmb tx n j2 q → (∀ e, q = .inl e → r = .inl e) → (∀ j3 (v : Nat), q = .inr (j3, (v : Int)) → (powo p v none ∧ r = .inl (3, (j1 : Int))) ∨ ∃ m, powo p v (some m) ∧ r = .inr (j3, m)) → C_number10 s4 (fun z36 s35 => (C_look10 s35 (fun s37 => (C_good10 s37 (fun z40 s39 => ((z40 = 0 → (C_endBase10_67 s39 Q)) ∧ (¬ (z40 = 0) → (C_raise10 z36 (j1 : Int) s39 (fun s42 => (C_endBase10_67 s42 Q))))))))) ) := fun q hn q1 q2 => by
            refine number_g c4 z4 a4 jn2 hn (fun e eq _ z s5 b5 _ => look67 e z s5 (q1 e eq) b5) (fun t v u t6 au eq v0 v9 s5 g5 a5 f5 => ?_)
            have c5 := rtx_pk c4 f5
            cases u with
            | inl e =>
              refine look_r c5 g5 a5 au (fun s6 l6 f6 => good_r (fun z => absurd ((show rbd s6 e from l6).1.symm.trans z) (show rbd s6 e from l6).2.1) (fun _ => ⟨fun _ => bad74 e s6 (q1 e eq) l6, fun z => absurd rfl z⟩))
            | inr y =>
              obtain ⟨j3, w⟩ := y
              refine look_r c5 g5 a5 au (fun s6 l6 f6 => ?_)
              obtain ⟨g6, a6⟩ := l6
              have f06 : pkf s s6 := pkf_trans (pkf_trans f34 f5) f6
              obtain ⟨S1, S2, S3, S4, S5, S6, S7⟩ := pkrow f06
              obtain ⟨T0, hT0⟩ := hT0
              obtain ⟨vn, rfl⟩ : ∃ vn : Nat, v = (vn : Int) := ⟨v.toNat, by omega⟩
              refine good_r (fun _ => ⟨fun z => absurd z (by decide), fun _ => ?_⟩) (fun z => absurd g6.1 z)
              have hp := q2 j3 vn eq
              rcases hp with ⟨po1, er⟩ | ⟨m, po1, er⟩
              · exact raise_r hd g6.1 S4 S1 fB (S7 T0 hT0) (by omega) po1 (fun m em => by cases em) (fun _ s7 b7 => bad74 _ s7 er b7)
              · refine raise_r hd g6.1 S4 S1 fB (S7 T0 hT0) (by omega) po1 (fun m' em s7 m7 e7 r7 fn7 t7 f7 => ?_) (fun em => by cases em)
                cases em
                refine endBase74_r (T := T) hd ⟨by rw [f7.1.1 _ _ (fun z => z)]; exact g6.1, j3, by rw [f7.1.1 _ _ (fun z => z)]; exact a6, ?_⟩ (by rw [f7.1.1 _ _ (fun z => z)]; exact S4) e7 r7 fn7 (by show s7.2 595 d = tp; rw [f7.1.2 _ (by omega)]; exact S2) (fun c => ⟨fun k hk => ?_, (hT c).2⟩) (lvf_tr (lvf_pk f06) (lvf_rw f7) (Nat.le_refl _)) (fun k => by rw [f7.1.2 _ (by omega)]; exact S5 k) (fun c k hc => by rw [f7.1.2 _ (by omega)]; exact S6 c k hc) (fun s' o => hQ s' (by rw [er]; exact o))
                · obtain ⟨k, sk, _ | _⟩ := au
                  · rename_i h; cases h.1; exact skp_s sk
                  · rename_i h; cases h.1
                · rw [t7 k hk, ← hT0 k hk]; exact (hT c).1 k hk
          rcases hr with ⟨e, nm, er⟩ | ⟨j3, v, nm, hr⟩
          · exact main _ nm (fun e' q => by cases q; exact er) (fun j3 v q => by cases q)
          · exact main _ nm (fun e' q => by cases q) (fun j3' v' q => by
              have q1 : j3 = j3' := congrArg (fun z => match z with | Sum.inl _ => j3 | Sum.inr (y : Nat × Int) => y.1) q
              have q2 : (v : Int) = (v' : Int) := congrArg (fun z => match z with | Sum.inl _ => (v : Int) | Sum.inr (y : Nat × Int) => y.2) q
              have q2 : v = v' := by omega
              subst q1; subst q2
              exact hr)
