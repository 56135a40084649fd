/-! WHAT BOTH SIDES HOLD BETWEEN TWO CALLS -/
/-- what calls may change of the class: its work, the text typed, the simple fractions; the reference may change all of its own -/
def cbf (s s' : im_S) : Prop := gfr (fun c f => (555 ≤ c ∧ c ≤ 575 ∧ (f = 1 ∨ f = 2)) ∨ 582 ≤ c ∨ (c = 0 ∧ f = 0)) (fun c => (556 ≤ c ∧ c ≤ 576) ∨ c = 580 ∨ c = 581 ∨ 582 ≤ c ∨ c = 3) s s'
theorem cbf_q {s s' : im_S} (h : qsf s s') : cbf s s' := gfr_mono h (fun c f e => Or.inl e) (fun c e => by omega)
theorem cbf_tr {s s' s2 : im_S} (h : cbf s s') (h' : cbf s' s2) : cbf s s2 := gfr_trans h h'
theorem cbf_cl {s s' : im_S} (h : clf s s') : cbf s s' := ⟨fun c f z => (h c f (by omega)).1, fun c z => funext (fun i => (h c i (by omega)).2)⟩
/-- type and four -/
def tyf (s s' : im_S) : Prop := gfr (fun c f => c = 0 ∧ f = 0) (fun c => c = 3) s s'
theorem cbf_ty {s s' : im_S} (h : tyf s s') : cbf s s' := gfr_mono h (fun c f e => by omega) (fun c e => by omega)
theorem CVl_b {s s' : im_S} {A : Nat → List Int} {m N n : Nat} {p : Nat → List Int} {M : Nat → Nat → Nat} {cs : Nat → Rat → Int} {oc : Nat → Nat} (h : CVl s A m N n p M cs oc) (w : cbf s s') : CVl s' A m N n p M cs oc := by
  obtain ⟨h1, ⟨I, F, R, ⟨lo, hi, mi, ot, f⟩, o⟩, h3, h4, h5⟩ := h
  have n80 := I.2.1
  refine ⟨h1, ⟨BI_co I w (fun e he => by omega) (fun e he => by omega) (by omega) (dI_co I.2.2.2.2 w (by omega) (by omega)), BF_co F w n80 (fun e he => by omega) (fun e he => by omega) (by omega), RTP_mv R (fun j hj => w.1 _ _ (by omega)) (fun j o hj _ q => rdt_co q w (fun k _ => by omega) (fun k => by omega) (by omega)), ⟨lo, hi, mi, ot, fq_co f w (fun k => by omega)⟩, big_g o w (by omega) (by omega) (by omega)⟩, by rw [w.1 _ _ (by omega)]; exact h3, fun k hk => by rw [w.2 577 (by omega)]; exact h4 k hk, h5⟩
/-- the class's half -/
def CB (s : im_S) (At : ats) (N n : Nat) (p : Nat → List Int) (M : Nat → Nat → Nat) (cs : Nat → Rat → Int) (oc : Nat → Nat) (tb : Nat → Nat → Int) (hd : Nat → Int) : Prop := tat s At ∧ CVl s (Fa At) At.length N n p M cs oc ∧ ((∀ c a, c ≤ 2 * N → a < At.length → s.2 578 (10 * c + a) = tb c a) ∧ (∀ c, c ≤ 2 * N → s.2 579 c = hd c) ∧ s.1 1 7 = (hvv hd (2 * N + 1)).1 ∧ s.1 1 8 = (hvv hd (2 * N + 1)).2.1 ∧ s.1 1 9 = (hvv hd (2 * N + 1)).2.2.1 ∧ s.1 1 10 = (hvv hd (2 * N + 1)).2.2.2) ∧ SCi s (fun k => cs (oc k)) N
/-- the reference's half -/
def RBd (s : im_S) (At : ats) (N nb : Nat) (b : Nat → List Int) (T : Nat → Nat → Nat) (f : Nat → Int) (F : Nat → List Int) (lo hi : Nat → Rat) (ds : Nat → Rat → Int) (od : Nat → Nat) (tb : Nat → Nat → Int) (hd : Nat → Int) : Prop := rat s At ∧ RVl s (Fa At) At.length N nb b T f F lo hi ds od ∧ (∀ c a : Nat, c ≤ 2 * N → a < At.length → wga s 617 ((10 * c + a : Nat) : Int) = tb c a) ∧ ∀ c : Nat, c ≤ 2 * N → wga s 618 (c : Int) = hd c
theorem CB_b {s s' : im_S} {At : ats} {N n : Nat} {p : Nat → List Int} {M : Nat → Nat → Nat} {cs : Nat → Rat → Int} {oc : Nat → Nat} {tb : Nat → Nat → Int} {hd : Nat → Int} (h : CB s At N n p M cs oc tb hd) (w : cbf s s') (hS : SCi s' (fun k => cs (oc k)) N) : CB s' At N n p M cs oc tb hd := by
  obtain ⟨t, v, ⟨x1, x2, x3, x4, x5, x6⟩, _⟩ := h
  refine ⟨tat_fr t w (by omega) (fun i hi => by omega) (fun i hi => by omega) (by omega), CVl_b v w, ⟨fun c a hc ha => by rw [w.2 578 (by omega)]; exact x1 c a hc ha, fun c hc => by rw [w.2 579 (by omega)]; exact x2 c hc, ?_, ?_, ?_, ?_⟩, hS⟩
  · rw [w.1 _ _ (by omega)]; exact x3
  · rw [w.1 _ _ (by omega)]; exact x4
  · rw [w.1 _ _ (by omega)]; exact x5
  · rw [w.1 _ _ (by omega)]; exact x6
theorem SCi_r {s s' : im_S} {es : Nat → Rat → Int} {N : Nat} (h : SCi s es N) (h0 : s'.2 580 = s.2 580) (h1 : s'.2 581 = s.2 581) : SCi s' es N := fun k hk => by rw [h0, h1]; exact h k hk
theorem rsm_rdy {s s' : im_S} {n nb : Nat} {f : Nat → Int} {F : Nat → List Int} {lo hi : Nat → Rat} (h : rsm s s') (hr : rdy s n nb f F lo hi) : rdy s' n nb f F lo hi := by
  obtain ⟨r0, r1, r2, r3, r4, r5, r6, r7, r8, r9, r10⟩ := hr
  have rr : ∀ (c : Nat) (i : Int), 582 ≤ c → wga s' c i = wga s c i := fun c i h1 => rsm_r h c i h1
  refine ⟨⟨r0.1, fun R hR => rsm_rk h (r0.2 R hR)⟩, by rw [rsm_f h]; exact r1, by rw [rsm_f h]; exact r2, r3, by rw [rsm_f h]; exact r4, by rw [rsm_f h]; exact r5, fun k hk => ?_, fun R hR => ?_, fun i hi => ?_, fun b hb => ?_, fun i hi => ?_⟩
  · rw [rr 614 _ (by decide)]; exact r6 k hk
  · rw [rr 607 _ (by decide)]; exact r7 R hR
  · rw [rr 606 _ (by decide)]; exact r8 i hi
  · rw [rr 602 _ (by decide), rr 598 _ (by decide)]; exact r9 b hb
  · rw [rsm_f h] at hi
    rw [rr 584 _ (by decide)]; exact r10 i hi
theorem fw_rdy {s s' : im_S} {n nb : Nat} {f : Nat → Int} {F : Nat → List Int} {lo hi : Nat → Rat} (h : fw [1] [583] s s') (hr : rdy s n nb f F lo hi) : rdy s' n nb f F lo hi := by
  obtain ⟨r0, r1, r2, r3, r4, r5, r6, r7, r8, r9, r10⟩ := hr
  have rr : ∀ (c : Nat) (i : Int), c ≠ 583 → wga s' c i = wga s c i := fun c i h1 => fw_r h c i (by simpa using h1)
  refine ⟨⟨r0.1, fun R hR => fw_rk h (r0.2 R hR)⟩, by rw [fw_f h 41 (by decide)]; exact r1, by rw [fw_f h 34 (by decide)]; exact r2, r3, by rw [fw_f h 24 (by decide)]; exact r4, by rw [fw_f h 6 (by decide)]; exact r5, fun k hk => ?_, fun R hR => ?_, fun i hi => ?_, fun b hb => ?_, fun i hi => ?_⟩
  · rw [rr 614 _ (by decide)]; exact r6 k hk
  · rw [rr 607 _ (by decide)]; exact r7 R hR
  · rw [rr 606 _ (by decide)]; exact r8 i hi
  · rw [rr 602 _ (by decide), rr 598 _ (by decide)]; exact r9 b hb
  · rw [fw_f h 6 (by decide)] at hi
    rw [rr 584 _ (by decide)]; exact r10 i hi
theorem RBd_rs {s s' : im_S} {At : ats} {N : Nat} {nb : Nat} {b : Nat → List Int} {T : Nat → Nat → Nat} {f : Nat → Int} {F : Nat → List Int} {lo hi : Nat → Rat} {ds : Nat → Rat → Int} {od : Nat → Nat} {tb : Nat → Nat → Int} {hd : Nat → Int} (h : RBd s At N nb b T f F lo hi ds od tb hd) (r : rsm s s') : RBd s' At N nb b T f F lo hi ds od tb hd := by
  obtain ⟨a, v, x, y⟩ := h
  exact ⟨rat_of a (congrFun (r 582 (by decide)).1 6) (r 584 (by decide)).2 (r 585 (by decide)).2, RVl_co v (rsm_rdy r v.1) (fun c i hc => rsm_r r c i (by omega)), fun c e hc he => by rw [rsm_r r 617 _ (by decide)]; exact x c e hc he, fun c hc => by rw [rsm_r r 618 _ (by decide)]; exact y c hc⟩
theorem RBd_fw {s s' : im_S} {At : ats} {N : Nat} {nb : Nat} {b : Nat → List Int} {T : Nat → Nat → Nat} {f : Nat → Int} {F : Nat → List Int} {lo hi : Nat → Rat} {ds : Nat → Rat → Int} {od : Nat → Nat} {tb : Nat → Nat → Int} {hd : Nat → Int} (h : RBd s At N nb b T f F lo hi ds od tb hd) (r : fw [1] [583] s s') : RBd s' At N nb b T f F lo hi ds od tb hd := by
  obtain ⟨a, v, x, y⟩ := h
  exact ⟨rat_of a (fw_f r 6 (by decide)) (funext (fun i => r.2 584 i (by decide))) (funext (fun i => r.2 585 i (by decide))), RVl_co v (fw_rdy r v.1) (fun c i hc => fw_r r c i (by simp; omega)), fun c e hc he => by rw [fw_r r 617 _ (by decide)]; exact x c e hc he, fun c hc => by rw [fw_r r 618 _ (by decide)]; exact y c hc⟩
theorem RBd_q {s s' : im_S} {At : ats} {N : Nat} {nb : Nat} {b : Nat → List Int} {T : Nat → Nat → Nat} {f : Nat → Int} {F : Nat → List Int} {lo hi : Nat → Rat} {ds : Nat → Rat → Int} {od : Nat → Nat} {tb : Nat → Nat → Int} {hd : Nat → Int} (h : RBd s At N nb b T f F lo hi ds od tb hd) (r : rfq s s') (v' : RVl s' (Fa At) At.length N nb b T f F lo hi ds od) : RBd s' At N nb b T f F lo hi ds od tb hd := by
  obtain ⟨a, v, x, y⟩ := h
  exact ⟨rat_of a (rfq_f r 6 (by decide)) (funext (fun i => r.2 584 i (by omega) (by decide))) (funext (fun i => r.2 585 i (by omega) (by decide))), v', fun c e hc he => by rw [rfq_row r 617 _ (by decide) (by decide)]; exact x c e hc he, fun c hc => by rw [rfq_row r 618 _ (by decide) (by decide)]; exact y c hc⟩
/-- tables depend only on what they look at -/
theorem mkd_c {L : Int} {mu mu' : Nat → Nat} {N : Nat} (h : ∀ k, k < N → mu k = mu' k) : ∀ j, j ≤ N → mkd L mu N j = mkd L mu' N j
  | 0, _ => rfl
  | j + 1, hj => by
    show (if mu (N - (j + 1)) % 2 = 1 then -(mkd L mu N j) else mkd L mu N j) = (if mu' (N - (j + 1)) % 2 = 1 then -(mkd L mu' N j) else mkd L mu' N j)
    rw [mkd_c h j (by omega), h (N - (j + 1)) (by omega)]
theorem sgc_c {L : Int} {mu mu' : Nat → Nat} {N c : Nat} (h : ∀ k, k < N → mu k = mu' k) (hc : c ≤ 2 * N) : sgc L mu N c = sgc L mu' N c := by
  unfold sgc
  by_cases q : c % 2 = 0
  · rw [if_pos q, if_pos q]; exact mkd_c h _ (by omega)
  · rw [if_neg q, if_neg q, h (c / 2) (by omega), mkd_c h _ (by omega)]
theorem brn_c {t t' : Nat → Bool} : ∀ {l : List Int} {x : bst}, (∀ c, c ∈ l → c < 10 → t c.toNat = t' c.toNat) → brn t l x = brn t' l x
  | [], x, _ => rfl
  | c :: l, x, h => by
    have e : bs1 t c x = bs1 t' c x := by
      unfold bs1
      by_cases q : c < 10
      · rw [if_pos q, if_pos q, h c (List.mem_cons_self ..) q]
      · rw [if_neg q, if_neg q]
    show brn t l (bs1 t c x) = brn t' l (bs1 t' c x)
    rw [e]
    exact brn_c (fun c' hc => h c' (List.mem_cons_of_mem _ hc))
/-- behind load: one table of signs, one row of what holds -/
theorem BW_mk {s s' : im_S} {A : atz} (zw : ZW A) (ht : tat s A.1) (hc : CLZ s A) (hr : rat s' A.1) (hd : RLZ s' A) : ∃ (N n nb : Nat) (p b : Nat → List Int) (M T : Nat → Nat → Nat) (cs ds : Nat → Rat → Int) (oc od : Nat → Nat) (tb : Nat → Nat → Int) (h : Nat → Int) (f : Nat → Int) (F : Nat → List Int) (lo hi : Nat → Rat), CB s A.1 N n p M cs oc tb h ∧ RBd s' A.1 N nb b T f F lo hi ds od tb h := by
  obtain ⟨N, n, p, M, cs, oc, L, v, ⟨hL, L3⟩, fc, sc⟩ := hc
  obtain ⟨n', nb, b, T, f, F, lo, hi, ds, od, L', v', ⟨hL', _⟩, g1, g2⟩ := hd
  obtain ⟨eN, es⟩ := LINK v v'
  subst eN
  have m10 := ht.2.1
  have eL : ∀ a, a < A.1.length → L' a = L a := fun a ha => by
    obtain ⟨P, w, e⟩ : ∃ P w, A.1[a]? = some (P, w) := ⟨A.1[a].1, A.1[a].2, by rw [List.getElem?_eq_getElem ha]⟩
    have y : dgo (s.1 (61 + 2 * a) 0) (Fa A.1 a) := by rw [Fa_at e]; exact (ht.2.2 a P w e).1.2
    rw [hL a _ y, hL' a _ y]
  have emu : ∀ k a, k < N → a < A.1.length → T (owR s' od k) a = M (owC s oc k) a := fun k a hk ha => by
    obtain ⟨w1, w2, w3⟩ := owC_at v hk
    obtain ⟨o1, o2, a1, a2, j, j1, j2, j3⟩ := RV_at v' (k := k) hk
    have e : owR s' od k = j := by unfold owR; rw [j2, Int.toNat_natCast]
    rw [e]
    exact (LINK_mu v v' hk ha w1 w3 j1 j3).symm
  have etb : ∀ c a, c ≤ 2 * N → a < A.1.length → sgc (L' a) (fun k => T (owR s' od k) a) N c = sgc (L a) (fun k => M (owC s oc k) a) N c := fun c a hc ha => by
    rw [eL a ha]
    exact sgc_c (fun k hk => emu k a hk ha) hc
  obtain ⟨x1, x2, x3⟩ := fc
  refine ⟨N, n, nb, p, b, M, T, cs, ds, oc, od, fun c a => sgc (L a) (fun k => M (owC s oc k) a) N c, fun c => hdZ A N L (fun k a => M (owC s oc k) a) c, f, F, lo, hi, ⟨ht, v, ⟨x1, x2, x3⟩, sc⟩, hr, v', fun c a hc ha => by rw [g1 c a hc ha]; exact etb c a hc ha, fun c hc => ?_⟩
  rw [g2 c hc]
  unfold hdZ
  rw [brn_c (t := fun a => decide (sgc (L' a) (fun k => T (owR s' od k) a) N c = due (rlA A.1 a))) (t' := fun a => decide (sgc (L a) (fun k => M (owC s oc k) a) N c = due (rlA A.1 a))) (fun x hx x10 => ?_)]
  obtain ⟨y0, _, y2⟩ := zw.2 x hx
  have := y2 x10
  try dsimp only
  rw [etb c x.toNat hc (by omega)]
