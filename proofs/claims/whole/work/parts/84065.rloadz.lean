/-! LOAD OF THE REFERENCE: all that is held behind it -/
/-- what the reference holds behind load -/
def RLZ (s : im_S) (A : atz) : Prop := ∃ (n nb : Nat) (b : Nat → List Int) (T : Nat → Nat → Nat) (f : Nat → Int) (F : Nat → List Int) (lo hi : Nat → Rat) (ds : Nat → Rat → Int) (od : Nat → Nat) (L : Nat → Int), RVl s (Fa A.1) A.1.length n nb b T f F lo hi ds od ∧ (LSG (Fa A.1) L ∧ ∀ a, L a = -1 ∨ L a = 0 ∨ L a = 1) ∧ (∀ c a : Nat, c ≤ 2 * n → a < A.1.length → wga s 617 ((10 * c + a : Nat) : Int) = sgc (L a) (fun k => T (owR s od k) a) n c) ∧ ∀ c : Nat, c ≤ 2 * n → wga s 618 (c : Int) = hdZ A n L (fun k a => T (owR s od k) a) c
def rtZ (R : ou atz) (s' : im_S) : Prop := (∃ e, rbd s' e ∧ R = .inl e) ∨ (s'.1 582 2 = 0 ∧ ∃ j A, R = .inr (j, A) ∧ rat s' A.1 ∧ PRs s' A.2 [])
theorem rtZ_f {R : ou atz} {s : im_S} (h : rtZ R s) : s.1 582 2 = foz R := by
  rcases h with ⟨e, b, eR⟩ | ⟨h, j, A, eR, _⟩
  · rw [eR]; exact b.1
  · rw [eR]; exact h
def W_readTexty (s : im_S) (Q : im_S → Prop) : Prop := jI s ∧ ∃ Q1 Q2 Q3, W_readText s Q1 ∧ C_readText10 s Q2 ∧ C_readText10 s Q3 ∧ ∀ s', Q1 s' → Q2 s' → Q3 s' → Q s'
theorem w_readTexty (L : Nat) (ys : Nat → Int32) (d : Nat) (s : im_S) (hv : vI s) (Q : im_S → Prop) (hW : W_readTexty s Q) : icV gG rm_P L ys (d + 8) 84 [(2, ((582 : Nat) : Int))] s (fun s9 => vI s9 ∧ Q s9) := by
  obtain ⟨hj, Q1, Q2, Q3, h1, h2, h3, h4⟩ := hW
  obtain ⟨res, hc, e, v, q⟩ := w_readText L ys d s hv Q1 h1
  obtain ⟨_, _, q'⟩ := c_readText10 L ys (d + 8) s (vI_jR hv hj) Q2 h2 res hc
  obtain ⟨_, _, q2⟩ := c_readText10 L ys (d + 8) s (vI_jR hv hj) Q3 h3 res hc
  exact ⟨res, hc, e, v, h4 _ q q' q2⟩
def W_loady (s : im_S) (Q : Int → im_S → Prop) : Prop := (∀ s1, s1 = wpf s 2 0 → (∀ s2, s2 = wpf s1 3 (-2) → (∀ s3, s3 = wpf s2 4 0 → (∀ s4, s4 = wpf s3 5 0 → (W_readTexty s4 (fun s5 => (∀ s7, s7 = wpf s5 1 0 → (W_good s7 (fun z9 s8 => ((¬ (z9 = 0) → (∀ s11, s11 = wpf s8 5 1 → (W_findAll s11 (fun s12 => (Q 0 s12))))) ∧ (z9 = 0 → (Q (wgf s8 2) s8))))))))))))
set_option maxRecDepth 16384 in
theorem w_loady (L : Nat) (ys : Nat → Int32) (d : Nat) (s : im_S) (hv : vI s) (Q : Int → im_S → Prop) (hW : W_loady s Q) : icI gG rm_P L ys 0 (d + 12) 65 [(2, ((582 : Nat) : Int))] s (fun z9 s9 => vI s9 ∧ iR z9 ∧ Q z9 s9) := by
  refine ic_startM (M := rm_p_X10_load) om_X10_load (Nat.le_of_ble_eq_true rfl) ?_
  refine ir_w [(0, (2, ((582 : Nat) : Int)))] ⟨rfl, trivial⟩ ?_
  unfold W_loady at hW
  refine ir_l (pc' := 1) rfl rfl rfl rfl rfl rfl ?_
  refine ir_k (pc' := 2) (v := (0, 0)) rfl rfl rfl (fun _ => rfl) ?_
  refine ir_vpi (pc' := 5) rfl rfl rfl rfl rfl rfl rfl hv (zR_i (Or.inl rfl)) (fun s1 s1e s1v => ?_)
  have hW := hW s1 s1e
  refine ir_l (pc' := 6) rfl rfl rfl rfl rfl rfl ?_
  refine ir_k (pc' := 8) (v := (0, (-2))) rfl rfl rfl (fun _ => rfl) ?_
  refine ir_vpi (pc' := 11) rfl rfl rfl rfl rfl rfl rfl s1v (⟨by decide, by decide⟩ : iR (-2)) (fun s2 s2e s2v => ?_)
  have hW := hW s2 s2e
  refine ir_l (pc' := 12) rfl rfl rfl rfl rfl rfl ?_
  refine ir_k (pc' := 13) (v := (0, 0)) rfl rfl rfl (fun _ => rfl) ?_
  refine ir_vpi (pc' := 16) rfl rfl rfl rfl rfl rfl rfl s2v (zR_i (Or.inl rfl)) (fun s3 s3e s3v => ?_)
  have hW := hW s3 s3e
  refine ir_l (pc' := 17) rfl rfl rfl rfl rfl rfl ?_
  refine ir_k (pc' := 18) (v := (0, 0)) rfl rfl rfl (fun _ => rfl) ?_
  refine ir_vpz (pc' := 21) rfl rfl rfl rfl rfl rfl rfl s3v (Or.inl rfl) (fun s4 s4e s4v => ?_)
  have hW := hW s4 s4e
  refine ir_l (pc' := 22) rfl rfl rfl rfl rfl rfl ?_
  refine ir_cVV (pc' := 25) rfl rfl rfl rfl rfl (Nat.le_of_ble_eq_true rfl) oo_X10_readText vg_582 (w_readTexty L ys (d + 3) s4 s4v  _ hW) (fun s5 hr => ?_)
  obtain ⟨s5v, hW⟩ := hr
  refine ir_l (pc' := 26) rfl rfl rfl rfl rfl rfl ?_
  refine ir_k (pc' := 27) (v := (0, 0)) rfl rfl rfl (fun _ => rfl) ?_
  refine ir_vpi (pc' := 30) rfl rfl rfl rfl rfl rfl rfl s5v (zR_i (Or.inl rfl)) (fun s7 s7e s7v => ?_)
  have hW := hW s7 s7e
  refine ir_l (pc' := 31) rfl rfl rfl rfl rfl rfl ?_
  refine ir_cVI (pc' := 34) rfl rfl rfl rfl rfl (Nat.le_of_ble_eq_true rfl) oo_X10_good vg_582 (w_good L ys (d + 10) s7 s7v  _ hW) (fun z9 s8 hr => ?_)
  obtain ⟨s8v, z9r, hW⟩ := hr
  refine ir_z_ne (pt := 42) (pc' := 37) rfl rfl rfl (fun c10 => ?_) (fun c10 => ?_)
  · have hW := hW.1 c10
    refine ir_l (pc' := 43) rfl rfl rfl rfl rfl rfl ?_
    refine ir_k (pc' := 44) (v := (0, 1)) rfl rfl rfl (fun _ => rfl) ?_
    refine ir_vpz (pc' := 47) rfl rfl rfl rfl rfl rfl rfl s8v (Or.inr rfl) (fun s11 s11e s11v => ?_)
    have hW := hW s11 s11e
    refine ir_l (pc' := 48) rfl rfl rfl rfl rfl rfl ?_
    refine ir_cVV (pc' := 51) rfl rfl rfl rfl rfl (Nat.le_of_ble_eq_true rfl) oo_X10_findAll vg_582 (w_findAll L ys d s11 s11v  _ hW) (fun s12 hr => ?_)
    obtain ⟨s12v, hW⟩ := hr
    refine ir_k (pc' := 52) (v := (0, 0)) rfl rfl rfl (fun _ => rfl) ?_
    exact ir_iret rfl rfl ⟨_, rfl, s12v, (zR_i (Or.inl rfl)), hW⟩
  · have hW := hW.2 c10
    refine ir_l (pc' := 38) rfl rfl rfl rfl rfl rfl ?_
    refine ir_vgi (pc' := 41) rfl rfl rfl rfl rfl s8v (fun r14 => ?_)
    exact ir_iret rfl rfl ⟨_, rfl, s8v, r14, hW⟩
theorem load_qz {tx : Nat → Int} {n : Nat} {R : ou atz} {s : im_S} {Q : Int → im_S → Prop} (hj : jI s) (h1 : 0 ≤ wgf s 1 ∧ wgf s 1 ≤ 400) (hc : rtx tx n s) (hR : RDz tx n R) (hQ : ∀ (v : Int) (s' : im_S), wgf s' 1 = 0 → rd s' → clf s s' → v = foz R → wgf s' 2 = foz R → wgf s' 3 = plz R → wgf s' 5 = knz R → (∀ j A, R = .inr (j, A) → rat s' A.1 ∧ RLZ s' A) → Q v s') : W_loady s Q := by
  unfold W_loady
  intro s1 e1 s2 e2 s3 e3 s4 e4
  have x1 : wgf s4 1 = wgf s 1 := by rw [e4, wf_ne (by decide), e3, wf_ne (by decide), e2, wf_ne (by decide), e1, wf_ne (by decide)]
  have x2 : wgf s4 2 = 0 := by rw [e4, wf_ne (by decide), e3, wf_ne (by decide), e2, wf_ne (by decide), e1, wf_same]
  have x3 : s4.1 582 3 = -2 := by show wgf s4 3 = -2; rw [e4, wf_ne (by decide), e3, wf_ne (by decide), e2, wf_same]
  have x4 : wgf s4 4 = 0 := by rw [e4, wf_ne (by decide), e3, wf_same]
  have x5 : wgf s4 5 = 0 := by rw [e4, wf_same]
  have m4 : fw [1, 2, 3, 4, 5, 6, 10, 12, 21] tR s s4 := by rw [e4, e3, e2, e1]; exact fw_pf (fw_pf (fw_pf (fw_pf fw_rfl (by decide)) (by decide)) (by decide)) (by decide)
  have rge : ∀ c, c ∈ tR → 582 ≤ c := fun c hc => by simp at hc; omega
  have row : s4.2 = s.2 := by subst e4; subst e3; subst e2; subst e1; rfl
  have hR0 := hR
  obtain ⟨q, aq, hq⟩ := hR
  refine ⟨clf_jI (fw_clf m4 rge) hj, _, fun s' => rtZ R s', fun s' => kF3 (-2) s', readText_ok (by unfold atR; omega) (fun s5 a1 a2 a3 a4 => (⟨a1, a2, a3, a4⟩ : fw tF tR s4 s5 ∧ atR s5 ∧ (0 ≤ wgf s5 6 ∧ wgf s5 6 ≤ 10) ∧ (wgf s5 2 = 0 → (∀ i : Int, 0 ≤ i → i < 9 * wgf s5 6 → fn9 (wga s5 584 i)) ∧ ∃ mk : Nat, wgf s5 10 = mk ∧ mok s5 mk))), readText_rz (i := 0) (q := q) (R := R) (rt_ofw hc x1 row) x2 x4 aq hq (fun e s' b eR => Or.inl ⟨e, b, eR⟩) (fun s' j A z eR a p => Or.inr ⟨z, j, A, eR, a, p⟩), kf_readText10 (c0 := -2) (fun _ => x3) (fun s' h => h), fun s5 p5 t5 k5 s6 e6 => ?_⟩
  obtain ⟨a1, a2, a3, a4⟩ := p5
  have m6 : fw [1, 2, 3, 4, 5, 6, 10, 12, 21] tR s s6 := by rw [e6]; exact fw_pf (fw_tr m4 (fw_mono a1 (by simp) (fun c h => h))) (by decide)
  have y1 : wgf s6 1 = 0 := by rw [e6, wf_same]
  have y2 : wgf s6 2 = wgf s5 2 := by rw [e6, wf_ne (by decide)]
  have y5 : wgf s6 5 = 0 := by rw [e6, wf_ne (by decide), fw_f a1 5 (by decide)]; exact x5
  have y6 : wgf s6 6 = wgf s5 6 := by rw [e6, wf_ne (by decide)]
  have y10 : wgf s6 10 = wgf s5 10 := by rw [e6, wf_ne (by decide)]
  have fR : wgf s5 2 = foz R := rtZ_f t5
  have pR : wgf s5 3 = plz R := by
    rcases t5 with ⟨e, b, eR⟩ | ⟨z0, j, A, eR, _⟩
    · rw [eR]; exact b.2.2
    · rw [eR]; exact k5 z0
  have y3 : wgf s6 3 = wgf s5 3 := by rw [e6, wf_ne (by decide)]
  have kb : wgf s6 2 ≠ 0 → 0 = knz R ∧ ∀ j A, R = .inr (j, A) → rat s6 A.1 ∧ RLZ s6 A := fun g => by
    refine ⟨?_, fun j A e => ?_⟩
    · cases R with
      | inl e => rfl
      | inr q => exact absurd (y2.trans fR) g
    · subst e; exact absurd (y2.trans fR) g
  refine good_ok (fun g => ⟨fun _ s7 e7 => ?_, fun c => absurd c (by decide)⟩) (fun g => ⟨fun c => absurd rfl c, fun _ => hQ _ s6 y1 (Or.inl y5) (fw_clf m6 rge) (y2.trans fR) (y2.trans fR) (y3.trans pR) (y5.trans (kb g).1) (kb g).2⟩)
  have m7 : fw [1, 2, 3, 4, 5, 6, 10, 12, 21] tR s s7 := by rw [e7]; exact fw_pf m6 (by decide)
  have z1 : wgf s7 1 = 0 := by rw [e7, wf_ne (by decide)]; exact y1
  have z6 : wgf s7 6 = wgf s5 6 := by rw [e7, wf_ne (by decide)]; exact y6
  have z10 : wgf s7 10 = wgf s5 10 := by rw [e7, wf_ne (by decide)]; exact y10
  have r : ∀ (c : Nat) (i : Int), wga s7 c i = wga s5 c i := fun c i => by rw [e7, wg_pf, e6, wg_pf]
  obtain ⟨b1, mk, b2, b3⟩ := a4 (by omega)
  rcases t5 with ⟨e, b, eR⟩ | ⟨_, j, A, eR, ra, pr⟩
  · exact absurd (b.1.symm.trans (y2.symm.trans g)) b.2.1
  subst eR
  obtain ⟨zw, zl⟩ := RDz_ok hR0
  have dp := RDz_dp hR0
  obtain ⟨_, rho, md, eq1, eq2⟩ := pr
  have lr : rho.length = mk := by
    have x := md.1
    have y : s5.1 582 10 = (mk : Int) := b2
    omega
  have lw5 : lrw (s5.2 586) rho := md.2
  have c10 : ∀ c, c ∈ rho → c < 10 := fun c hc => by
    obtain ⟨i, hi, e⟩ := List.mem_iff_getElem.1 hc
    have z := lw5 i c (by rw [List.getElem?_eq_getElem hi, e])
    have w := (b3.2 i (by omega)).1
    have : wga s5 586 (i : Int) = c := by show s5.2 586 ((i : Nat) : Int).toNat = c; rw [Int.toNat_natCast]; exact z
    omega
  have m1 : mdp s5 mk = 1 := by rw [mdp_dp mk rho lr lw5 c10, ← eq1.2]; exact dp
  have mk1 : 1 ≤ mk := by
    cases mk with
    | zero =>
      have : mdp s5 0 = 0 := rfl
      omega
    | succ k => omega
  have ra6 : wgf s5 6 = (A.1.length : Int) := ra.1
  have X5 : XPR s5 (Fa A.1) A.1.length mk (rlA A.1) := by
    refine ⟨ra6, ra.2.1, fun i hi => ?_, fun i hi => ?_, fun k hk => ?_, mk1, m1⟩
    · obtain ⟨h9, P, w, e, fa⟩ := Fa_9 (At := A.1) (i := i) hi
      refine ⟨h9, fun k hk => ?_⟩
      rw [(rat_row ra e).1 k hk, fa, pmk_gt, if_pos hk]
    · obtain ⟨h9, P, w, e, fa⟩ := Fa_9 (At := A.1) (i := i) hi
      rw [(rat_row ra e).2]
      unfold rlA
      rw [e]
    · have hk' : k < rho.length := by omega
      have z := lw5 k rho[k] (by rw [List.getElem?_eq_getElem hk'])
      have y : wga s5 586 (k : Int) = rho[k] := by show s5.2 586 ((k : Nat) : Int).toNat = _; rw [Int.toNat_natCast]; exact z
      rw [y]
      by_cases q : 0 ≤ rho[k]
      · have me := eq2 rho[k] (List.getElem_mem hk') q
        have := (zw.2 _ me).2.2 (c10 _ (List.getElem_mem hk'))
        omega
      · omega
  have X7 : XPR s7 (Fa A.1) A.1.length mk (rlA A.1) := XPR_co X5 z6 (fun c _ x => r c x)
  obtain ⟨L, hL⟩ := L_ex (Fa A.1)
  refine findAll_okz (m := mk) (by omega) (fun i hi => ?_) (by omega) (mok_co (fun i _ => r _ _) b3) (ma := A.1.length) (A := Fa A.1) (by rw [z6]; exact ra6) X7 hL (fun i hi => ?_) (fun s8 n nb b T f F lo hi ds od c1 c2 c3 => hQ 0 s8 ?_ (Or.inr ⟨n, nb, f, F, lo, hi, c2.1⟩) (clf_tr (fw_clf m7 rge) (fa_clf c1)) rfl ?_ ?_ ?_ ?_)
  · rw [r]
    have := b1 (i : Int) (by omega) (by omega)
    unfold fn9 at this
    exact this
  · obtain ⟨h9, P, w, e, fa⟩ := Fa_9 (At := A.1) (i := i) hi
    rw [fa]
    exact pmk_co (fun k hk => by rw [r, (rat_row ra e).1 k hk])
  · rw [fa_f c1 1 (by decide)]; exact z1
  · rw [fa_f c1 2 (by decide), e7, wf_ne (by decide)]; exact y2.trans fR
  · rw [fa_f c1 3 (by decide), e7, wf_ne (by decide)]; exact y3.trans pR
  · rw [fa_f c1 5 (by decide), e7, wf_same]; rfl
  · intro j' A' eR
    cases eR
    refine ⟨rat_of ra ?_ ?_ ?_, n, nb, b, T, f, F, lo, hi, ds, od, L, c2, hL, c3.1, fun c hc => ?_⟩
    · exact (fa_f c1 6 (by decide)).trans z6
    · funext i; exact (c1.2 584 i (by omega)).trans (by rw [e7, e6]; rfl)
    · funext i; exact (c1.2 585 i (by omega)).trans (by rw [e7, e6]; rfl)
    · rw [c3.2 c hc]
      have r86 : s8.2 586 = s5.2 586 := by funext i; exact (c1.2 586 i (by omega)).trans (by rw [e7, e6]; rfl)
      rw [stZ9_brn mk rho lr (by rw [r86]; exact lw5), ← eq1.1]
      rfl
