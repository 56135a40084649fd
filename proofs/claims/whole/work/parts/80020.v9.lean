theorem readBase_w {l1 l2 : Int} {s : im_S} {Q : im_S → Prop} (hC : CVp 0 3 l1 l2 s Q) : C_readBase7v l1 l2 s Q := by
  rcases hC with ⟨e, h, hQ⟩ | ⟨tx, n, j, a, d, hc, h, rfl, rfl, hd, ha, hQ⟩
  · have n1 : cgf s 2 3 = 1 := h.2.2.2
    refine ⟨fun _ => ⟨fun z => ?_, fun _ => ?_⟩, fun z => ?_⟩
    · rw [n1] at z; exact absurd z (by decide)
    · refine min_J (max_J (readNumber_b h (fun z s1 h1 => setC_bd (by omega) h1 hQ)))
    · rw [n1] at z; exact absurd z (by decide)
  · have nx : cgf s 2 3 = nxc tx n j := h.2.2.1
    have at' : cgf s 2 2 = (j : Int) := h.2.1
    unfold C_readBase7v
    rw [nx, at']
    refine ⟨fun n120 => ⟨fun n40 => ⟨fun c => ?_, fun c => ?_⟩, fun n40 => ?_⟩, fun n120 => ?_⟩
    · have d10 : d < 10 := by omega
      refine step_v hc h (nxc_lt (by rw [n40]; decide)) (fun s1 r ad lk f1 => ?_)
      cases r with
      | inl e => exact CVp_b lk (fun s2 b2 => expect_b b2 (fun s3 b3 => hQ s3 (.inl e) (Gx_ba (Or.inr (Or.inr (Or.inr (Or.inr ⟨⟨n40, d10⟩, Or.inl ⟨e, ad, rfl⟩⟩))))) b3))
      | inr z =>
        obtain ⟨j1, u⟩ := z
        have e1 : w32 ((d : Int) + 1) = ((d + 1 : Nat) : Int) := w32s (by omega)
        rw [e1]
        refine CVp_g (ctx_lk hc f1) lk (by omega) (by omega) (fun s2 r2 g2 o2 => ?_)
        cases r2 with
        | inl e => exact expect_b o2 (fun s3 b3 => hQ s3 (.inl e) (Gx_ba (Or.inr (Or.inr (Or.inr (Or.inr ⟨⟨n40, d10⟩, Or.inr ⟨j1, ad, Or.inl ⟨e, g2, rfl⟩⟩⟩))))) b3)
        | inr z =>
          obtain ⟨j2, P⟩ := z
          obtain ⟨g3, lt3, p3, fn3, v3⟩ := o2
          have c2 := ctx_vf (ctx_lk hc f1) v3
          refine expect_v c2 g3 (by decide) (fun e41 s3 r3 ad3 lk3 f3 => ?_) (fun e41 s3 b3 => hQ s3 (.inl (2, (j2 : Int))) (Gx_ba (Or.inr (Or.inr (Or.inr (Or.inr ⟨⟨n40, d10⟩, Or.inr ⟨j1, ad, Or.inr ⟨j2, P, g2, Or.inl ⟨e41, rfl⟩⟩⟩⟩))))) b3)
          refine hQ s3 (r3.map id (fun z => (z.1, P))) (Gx_ba (Or.inr (Or.inr (Or.inr (Or.inr ⟨⟨n40, d10⟩, Or.inr ⟨j1, ad, Or.inr ⟨j2, P, g2, Or.inr ⟨e41, r3, ad3, rfl⟩⟩⟩⟩))))) ?_
          cases r3 with
          | inl e => exact lk3
          | inr z =>
            obtain ⟨j3, u3⟩ := z
            have l1 := adv_le ad
            have l3 := adv_le ad3
            exact ⟨lk3, by omega, slp_fr p3 f3 (by omega) (fun z => z), fn3, vfr_tr (vfr_tr (vfr_lk f1) v3 (Nat.le_refl _)) (vfr_lk f3) (Nat.le_refl _)⟩
    · exact fail_g h.1 (by decide) (fun s1 b1 _ => hQ s1 (.inl (3, (j : Int))) (Gx_ba (Or.inr (Or.inr (Or.inr (Or.inl ⟨⟨n40, by omega⟩, rfl⟩))))) b1)
    · refine slot_v (by omega) ?_
      by_cases dd : dgt (nxc tx n j)
      · refine readNumber_v hc h dd (fun z s1 r nm nr f1 => ?_)
        cases r with
        | inl e => exact setC_bd (by omega) nr (fun s2 b2 => hQ s2 (.inl e) (Gx_ba (Or.inr (Or.inl ⟨dd, .inl e, nm, rfl⟩))) b2)
        | inr y =>
          obtain ⟨j1, v⟩ := y
          obtain ⟨g1, e1, v0, v1⟩ := nr
          subst e1
          refine setConstant_b (fun s2 p2 f2 => hQ s2 (.inr (j1, poC z)) (Gx_ba (Or.inr (Or.inl ⟨dd, .inr (j1, z), nm, rfl⟩))) ⟨gdS_fr g1 f2 (fun k => by omega), ?_, slp_C p2, fin9_C v0 v1, gfr_trans (vfr_lk f1) (gfr_mono f2 (fun c f e => by omega) (fun c e => by omega))⟩)
          obtain ⟨t, w, t6, t1, _, q | ⟨_, q, aq, eq⟩⟩ := nm
          · exact absurd q.2.2.2 (by simp)
          · cases q with
            | inl e => cases eq
            | inr y =>
              obtain ⟨j9, u9⟩ := y
              cases eq
              have := adv_le aq
              omega
      · refine isDigit_g (fun q => absurd (by rw [← nx]; exact q) dd) (fun _ => ⟨fun z => absurd rfl z, fun _ => ?_⟩)
        rw [at']
        exact fail_g h.1 (by decide) (fun s1 b1 _ => setC_bd (by omega) b1 (fun s2 b2 => hQ s2 (.inl (2, (j : Int))) (Gx_ba (Or.inr (Or.inr (Or.inl ⟨⟨n120, n40, dd⟩, rfl⟩)))) b2))
    · refine slot_v (by omega) (setLinear_b (fun s1 p1 f1 => ?_))
      have c1 : ctx tx n s1 := ctx_fr hc f1 (by omega) (by omega)
      have g1 : gdS tx n s1 j := gdS_fr h f1 (fun k => by omega)
      refine step_v c1 g1 (nxc_lt (by rw [n120]; decide)) (fun s2 r ad lk f2 => ?_)
      refine hQ s2 (r.map id (fun z => (z.1, poX))) (Gx_ba (Or.inl ⟨n120, r, ad, rfl⟩)) ?_
      cases r with
      | inl e => exact lk
      | inr z =>
        obtain ⟨j1, u⟩ := z
        have := adv_le ad
        refine ⟨lk, by omega, slp_fr (slp_X p1) f2 (by omega) (fun z => z), fun k hk => ?_, gfr_trans (gfr_mono f1 (fun c f e => by omega) (fun c e => by omega)) (vfr_lk f2)⟩
        show -1000000000 ≤ (if k = 1 then (1 : Int) else 0) ∧ (if k = 1 then (1 : Int) else 0) ≤ 1000000000
        split <;> omega
theorem readPower_w {l1 l2 : Int} {s : im_S} {Q : im_S → Prop} (hC : CVp 1 3 l1 l2 s Q) : C_readPower7v l1 l2 s Q := by
  rcases hC with ⟨e, h, hQ⟩ | ⟨tx, n, j, a, d, hc, h, rfl, rfl, hd, ha, hQ⟩
  · refine CVp_b h (fun s1 b1 => ⟨fun _ => hQ s1 b1, fun z => ?_⟩)
    rw [show cgf s1 2 3 = 1 from b1.2.2.2] at z; exact absurd z (by decide)
  · refine CVp_g hc h hd ha (fun s1 r1 g1 o1 => ?_)
    cases r1 with
    | inl e =>
      have b1 : bdS s1 e := o1
      refine ⟨fun _ => hQ s1 (.inl e) (Gx_pw (Or.inl ⟨e, g1, rfl⟩)) b1, fun z => ?_⟩
      rw [show cgf s1 2 3 = 1 from b1.2.2.2] at z; exact absurd z (by decide)
    | inr z =>
      obtain ⟨j1, P⟩ := z
      obtain ⟨gd1, lt1, p1, fn1, v1⟩ := o1
      have c1 := ctx_vf hc v1
      rw [show cgf s1 2 3 = nxc tx n j1 from gd1.2.2.1, show cgf s1 2 2 = (j1 : Int) from gd1.2.1]
      refine ⟨fun e => hQ s1 (.inr (j1, P)) (Gx_pw (Or.inr ⟨j1, P, g1, Or.inl ⟨e, rfl⟩⟩)) ⟨gd1, lt1, p1, fn1, v1⟩, fun e94 => ?_⟩
      refine step_v c1 gd1 (nxc_lt (by rw [e94]; decide)) (fun s2 r2 ad2 lk2 f2 => ?_)
      cases r2 with
      | inl e => exact readNumber_b lk2 (fun z s3 b3 => slot_b (fun a => raise_bd b3 (fun s4 b4 => hQ s4 (.inl e) (Gx_pw (Or.inr ⟨j1, P, g1, Or.inr ⟨e94, Or.inl ⟨e, ad2, rfl⟩⟩⟩)) b4)))
      | inr z =>
        obtain ⟨j2, u⟩ := z
        have lk2 : gdS tx n s2 j2 := lk2
        have c2 := ctx_lk c1 f2
        by_cases dd : dgt (nxc tx n j2)
        · refine readNumber_v c2 lk2 dd (fun z s3 r3 nm nr f3 => ?_)
          cases r3 with
          | inl e => exact slot_b (fun a => raise_bd nr (fun s4 b4 => hQ s4 (.inl e) (Gx_pw (Or.inr ⟨j1, P, g1, Or.inr ⟨e94, Or.inr ⟨j2, ad2, Or.inr ⟨dd, Or.inl ⟨e, nm, rfl⟩⟩⟩⟩⟩)) b4))
          | inr y =>
            obtain ⟨j3, v⟩ := y
            obtain ⟨g3, e3, v0, v9⟩ := nr
            subst e3
            obtain ⟨w, rfl⟩ : ∃ w : Nat, z = (w : Int) := ⟨z.toNat, by omega⟩
            have p3 : slp s3 (5 + 2 * a) P := slp_fr (slp_fr p1 f2 (by omega) (fun z => z)) f3 (by omega) (fun z => z)
            have l2 := adv_le ad2
            have l3 : j2 < j3 := by
              obtain ⟨t, w, t6, t1, _, q | ⟨_, q, aq, eq⟩⟩ := nm
              · exact absurd q.2.2.2 (by simp)
              · cases q with
                | inl e => cases eq
                | inr y =>
                  obtain ⟨j9, u9⟩ := y
                  cases eq
                  have := adv_le aq
                  omega
            refine slot_v (by omega) (raise_v ⟨by omega, by omega⟩ (by omega) (by omega) g3.1 p3 fn1 (fun m pm s4 p4 fn4 f4 => ?_) (fun pm s4 b4 => hQ s4 (.inl (3, (j1 : Int))) (Gx_pw (Or.inr ⟨j1, P, g1, Or.inr ⟨e94, Or.inr ⟨j2, ad2, Or.inr ⟨dd, Or.inr ⟨j3, w, nm, Or.inl ⟨pm, rfl⟩⟩⟩⟩⟩⟩)) b4))
            exact hQ s4 (.inr (j3, m)) (Gx_pw (Or.inr ⟨j1, P, g1, Or.inr ⟨e94, Or.inr ⟨j2, ad2, Or.inr ⟨dd, Or.inr ⟨j3, w, nm, Or.inr ⟨m, pm, rfl⟩⟩⟩⟩⟩⟩)) ⟨gdS_fr g3 f4 (fun k => by omega), by omega, p4, fn4, gfr_trans (vfr_tr (vfr_tr v1 (vfr_lk (a := a) f2) (Nat.le_refl _)) (vfr_lk (a := a) f3) (Nat.le_refl _)) (gfr_mono f4 (fun c f e => by omega) (fun c e => by omega))⟩
        · refine isDigit_g (fun q => absurd (by rw [show cgf s2 2 3 = nxc tx n j2 from lk2.2.2.1] at q; exact q) dd) (fun _ => ⟨fun z => absurd rfl z, fun _ => ?_⟩)
          rw [show cgf s2 2 2 = (j2 : Int) from lk2.2.1]
          exact fail_g lk2.1 (by decide) (fun s3 b3 _ => slot_b (fun a => raise_bd b3 (fun s4 b4 => hQ s4 (.inl (2, (j2 : Int))) (Gx_pw (Or.inr ⟨j1, P, g1, Or.inr ⟨e94, Or.inr ⟨j2, ad2, Or.inl ⟨dd, rfl⟩⟩⟩⟩)) b4)))
