/-! EACH QUESTION ON BOTH SIDES -/
theorem signAt_w9 {x a q : Int} {A : ats} {s : im_S} {Q : Int → im_S → Prop} (hk : kp1 s) (h : s.1 0 3 = 0 ∨ tat s A) (hQ : ∀ z s', wkf s s' → ((s.1 0 3 = 0 ∨ x < 0 ∨ s.1 2 11 ≤ x ∨ q < 1 ∨ 1000000000 < q ∨ a < -1000000000 ∨ 1000000000 < a) ∧ z = -2) ∨ ((s.1 0 3 ≠ 0 ∧ 0 ≤ x ∧ x < s.1 2 11 ∧ 1 ≤ q ∧ q ≤ 1000000000 ∧ -1000000000 ≤ a ∧ a ≤ 1000000000) ∧ ∃ P w, A[x.toNat]? = some (P, w) ∧ sgA P a q z) → Q z s') : C_signAt9 x a q s Q := by
  intro v ev
  by_cases g : s.1 0 3 = 0 ∨ x < 0 ∨ s.1 2 11 ≤ x
  · have v0 : v = 0 := by
      rw [ev]
      show (if s.1 0 3 = 0 then (0 : Int) else (if x < 0 then 0 else (if s.1 2 11 ≤ x then 0 else 1))) = 0
      split
      · rfl
      · split
        · rfl
        · split
          · rfl
          · omega
    exact ⟨fun _ => hQ _ _ (gfr_refl _ _ _) (Or.inl ⟨by omega, rfl⟩), fun c => absurd v0 c⟩
  have v1 : v = 1 := by
    rw [ev]
    show (if s.1 0 3 = 0 then (0 : Int) else (if x < 0 then 0 else (if s.1 2 11 ≤ x then 0 else 1))) = 1
    rw [if_neg (by omega), if_neg (by omega), if_neg (by omega)]
  refine ⟨fun c => absurd c (by omega), fun _ w ew => ?_⟩
  by_cases f : q < 1 ∨ 1000000000 < q ∨ a < -1000000000 ∨ 1000000000 < a
  · have w0 : w = 0 := by
      rw [ew]
      split
      · rfl
      · split
        · rfl
        · split
          · rfl
          · split
            · rfl
            · omega
    exact ⟨fun c => absurd w0 c, fun _ => hQ _ _ (gfr_refl _ _ _) (Or.inl ⟨by omega, rfl⟩)⟩
  have w1 : w = 1 := by rw [ew, if_neg (by omega), if_neg (by omega), if_neg (by omega), if_neg (by omega)]
  refine ⟨fun _ => ?_, fun c => absurd c (by omega)⟩
  rcases h with h | h
  · omega
  obtain ⟨t1, t2, t3⟩ := h
  have xl : x.toNat < A.length := by omega
  obtain ⟨pw, hpw⟩ : ∃ pw, A[x.toNat]? = some pw := ⟨A[x.toNat], List.getElem?_eq_getElem xl⟩
  obtain ⟨P, w⟩ := pw
  obtain ⟨u1, u2, u3⟩ := t3 x.toNat P w hpw
  exact signAtF_b hk.2.1 (by omega) u1 u2 (by omega) (by omega) (fun z s' hz hw => hQ _ _ hw (Or.inr ⟨by omega, P, w, hpw, hz⟩))
theorem roQ_c {kn : Prop} {k e : Int} {es es' : Nat → Rat → Int} {n : Nat} {v : Int} (he : ∀ k, k < n → es k = es' k) (h : roQ kn k e es n v) : roQ kn k e es' n v := by
  rcases h with h | ⟨h, g⟩
  · exact Or.inl h
  · exact Or.inr ⟨h, by rw [← he k.toNat (by omega)]; exact g⟩
theorem roQ_u9 {kn : Prop} {k e : Int} {es : Nat → Rat → Int} {n : Nat} {v v' : Int} (hc : ∀ k, k < n → cut (es k)) (h : roQ kn k e es n v) (h' : roQ kn k e es n v') : v = v' := by
  rcases h with ⟨a, b⟩ | ⟨a, b⟩ <;> rcases h' with ⟨a', b'⟩ | ⟨a', b'⟩
  · omega
  · exfalso; rcases a with q | q | q | q | q <;> first | exact q a'.1 | omega
  · exfalso; rcases a' with q | q | q | q | q <;> first | exact q a.1 | omega
  · refine flc_u (hc k.toNat (by omega)) ?_ b b'
    have : (10 : Int) ^ e.toNat = ((10 ^ e.toNat : Nat) : Int) := by rw [Int.natCast_pow]; rfl
    rw [this]
    have p : 0 < 10 ^ e.toNat := Nat.pow_pos (by decide)
    omega
theorem exQ_c {kn : Prop} {k w : Int} {es es' : Nat → Rat → Int} {n : Nat} {v : Int} (he : ∀ k, k < n → es k = es' k) (h : exQ kn k w es n v) : exQ kn k w es' n v := by
  rcases h with h | ⟨h, g⟩
  · exact Or.inl h
  · exact Or.inr ⟨h, by rw [← he k.toNat (by omega)]; exact g⟩
theorem clq_c {es es' : Nat → Rat → Int} {n : Nat} {x : Rat} {v : Int} (he : ∀ k, k < n → es k = es' k) (h : clq es n x v) : clq es' n x v := by
  rcases h with ⟨k, k1, k2, k3⟩ | ⟨k, k1, k2, k3, k4⟩
  · exact Or.inl ⟨k, k1, by rw [← he k k1]; exact k2, k3⟩
  · exact Or.inr ⟨k, k1, k2, fun j hj => by rw [← he j (by omega)]; exact k3 j hj, fun j j1 j2 => by rw [← he j j2]; exact k4 j j1 j2⟩
theorem caQ_c {kn : Prop} {p q : Int} {es es' : Nat → Rat → Int} {n : Nat} {v : Int} (he : ∀ k, k < n → es k = es' k) (h : caQ kn p q es n v) : caQ kn p q es' n v := by
  rcases h with h | ⟨h, g⟩
  · exact Or.inl h
  · exact Or.inr ⟨h, clq_c he g⟩
theorem caQ_u9 {kn : Prop} {p q : Int} {es : Nat → Rat → Int} {n : Nat} {v v' : Int} (hc : ∀ k, k < n → cut (es k)) (hr : ∀ k k', k < k' → k' < n → lft9 (es k) (es k')) (h : caQ kn p q es n v) (h' : caQ kn p q es n v') : v = v' := by
  rcases h with ⟨a, b⟩ | ⟨a, b⟩ <;> rcases h' with ⟨a', b'⟩ | ⟨a', b'⟩
  · omega
  · exfalso; rcases a with q | q | q | q | q <;> first | exact q a'.1 | omega
  · exfalso; rcases a' with q | q | q | q | q <;> first | exact q a.1 | omega
  · exact clq_u hc hr b b'
theorem inC_c {es es' : Nat → Rat → Int} {N k : Nat} {x : Rat} (hk : k ≤ N) (he : ∀ k, k < N → es k = es' k) : inC es N k x ↔ inC es' N k x := by
  unfold inC
  by_cases a : k = 0
  · by_cases b : k = N
    · exact ⟨fun _ => ⟨Or.inl a, Or.inl b⟩, fun _ => ⟨Or.inl a, Or.inl b⟩⟩
    · rw [he k (by omega)]
      exact ⟨fun z => ⟨Or.inl a, z.2⟩, fun z => ⟨Or.inl a, z.2⟩⟩
  · rw [he (k - 1) (by omega)]
    by_cases b : k = N
    · exact ⟨fun z => ⟨z.1, Or.inl b⟩, fun z => ⟨z.1, Or.inl b⟩⟩
    · rw [he k (by omega)]
theorem smp_c {es es' : Nat → Rat → Int} {N k : Nat} {a d : Int} (hk : k ≤ N) (he : ∀ k, k < N → es k = es' k) (h : smp es N k a d) : smp es' N k a d := by
  rcases h with ⟨x, y⟩ | ⟨x, y, z, u⟩
  · exact Or.inl ⟨x, fun p q q1 q2 g => y p q q1 q2 ((inC_c hk he).2 g)⟩
  · exact Or.inr ⟨x, (inC_c hk he).1 y, fun p q q1 q2 g => z p q q1 q2 ((inC_c hk he).2 g), fun p g => u p ((inC_c hk he).2 g)⟩
theorem siQ_c {kn : Prop} {c w : Int} {es es' : Nat → Rat → Int} {N : Nat} {v : Int} (he : ∀ k, k < N → es k = es' k) (h : siQ kn c w es N v) : siQ kn c w es' N v := by
  rcases h with h | ⟨h, g⟩
  · exact Or.inl h
  · refine Or.inr ⟨h, ?_⟩
    rcases g with ⟨e, a, d, s, v⟩ | ⟨e, g⟩
    · exact Or.inl ⟨e, a, d, smp_c (by omega) he s, v⟩
    · exact Or.inr ⟨e, by rw [← he (c / 2).toNat (by omega)]; exact g⟩
/-- what holds between two calls -/
def RB (s : im_S) : Prop := s.1 247 3 ≠ s.1 247 4 ∧ s.1 0 1 = wgf s 2 ∧ s.1 0 2 = wgf s 3 ∧ (s.1 0 3 ≠ 0 ↔ wgf s 5 ≠ 0) ∧ ∃ (At : ats) (N n nb : Nat) (p b : Nat → List Int) (M T : Nat → Nat → Nat) (cs ds : Nat → Rat → Int) (oc od : Nat → Nat) (tb : Nat → Nat → Int) (hd : Nat → Int) (f : Nat → Int) (F : Nat → List Int) (lo hi : Nat → Rat), (s.1 0 3 ≠ 0 → CB s At N n p M cs oc tb hd) ∧ (wgf s 5 ≠ 0 → RBd s At N nb b T f F lo hi ds od tb hd)
def LI5 (s : im_S) : Prop := LI3 s ∧ RB s
theorem RB_mk {s s1 s2 : im_S} {At : ats} {N n : Nat} {p : Nat → List Int} {M : Nat → Nat → Nat} {cs : Nat → Rat → Int} {oc : Nat → Nat} {tb : Nat → Nat → Int} {hd : Nat → Int} {nb : Nat} {b : Nat → List Int} {T : Nat → Nat → Nat} {f : Nat → Int} {F : Nat → List Int} {lo hi : Nat → Rat} {ds : Nat → Rat → Int} {od : Nat → Nat} (h1 : s.1 247 3 ≠ s.1 247 4) (h2 : s.1 0 1 = wgf s 2) (h3 : s.1 0 2 = wgf s 3) (h4 : s.1 0 3 ≠ 0 ↔ wgf s 5 ≠ 0) (hB : s.1 0 3 ≠ 0 → CB s At N n p M cs oc tb hd) (g : cbf s s2) (hS : s.1 0 3 ≠ 0 → SCi s2 (fun k => cs (oc k)) N) (e2 : wgf s2 2 = wgf s 2) (e3 : wgf s2 3 = wgf s 3) (e5 : wgf s2 5 = wgf s 5) (hR : wgf s 5 ≠ 0 → RBd s2 At N nb b T f F lo hi ds od tb hd) : RB s2 := by
  have k3 : s2.1 0 3 = s.1 0 3 := g.1 _ _ (by omega)
  refine ⟨by rw [g.1 _ _ (by omega), g.1 _ _ (by omega)]; exact h1, by rw [g.1 _ _ (by omega), e2]; exact h2, by rw [g.1 _ _ (by omega), e3]; exact h3, by rw [k3, e5]; exact h4, At, N, n, nb, p, b, M, T, cs, ds, oc, od, tb, hd, f, F, lo, hi, fun z => ?_, fun z => ?_⟩
  · rw [k3] at z
    exact CB_b (hB z) g (hS z)
  · rw [e5] at z
    exact hR z
theorem RB_o {s s1 s2 : im_S} {At : ats} {N n : Nat} {p : Nat → List Int} {M : Nat → Nat → Nat} {cs : Nat → Rat → Int} {oc : Nat → Nat} {tb : Nat → Nat → Int} {hd : Nat → Int} {nb : Nat} {b : Nat → List Int} {T : Nat → Nat → Nat} {f : Nat → Int} {F : Nat → List Int} {lo hi : Nat → Rat} {ds : Nat → Rat → Int} {od : Nat → Nat} (h1 : s.1 247 3 ≠ s.1 247 4) (h2 : s.1 0 1 = wgf s 2) (h3 : s.1 0 2 = wgf s 3) (h4 : s.1 0 3 ≠ 0 ↔ wgf s 5 ≠ 0) (hB : s.1 0 3 ≠ 0 → CB s At N n p M cs oc tb hd) (r : rsm s s1) (T1 : qsf s s1) (hS : s.1 0 3 ≠ 0 → SCi s1 (fun k => cs (oc k)) N) (q : rfq s1 s2) (hR : wgf s1 5 ≠ 0 → RBd s2 At N nb b T f F lo hi ds od tb hd) : RB s2 := by
  have c := rfq_clf q
  refine RB_mk (s1 := s1) h1 h2 h3 h4 hB (cbf_tr (cbf_q T1) (cbf_cl c)) (fun z => SCi_r (hS z) (funext (fun i => (c 580 i (by decide)).2)) (funext (fun i => (c 581 i (by decide)).2))) ((rfq_f q 2 (by decide)).trans (rsm_f r 2)) ((rfq_f q 3 (by decide)).trans (rsm_f r 3)) ((rfq_f q 5 (by decide)).trans (rsm_f r 5)) (fun z => hR (by rw [rsm_f r]; exact z))
theorem RB_w {s s1 s2 : im_S} (h : RB s) (r : rsm s s1) (k : tyf s s1) (q : fw [1] [583] s1 s2) : RB s2 := by
  obtain ⟨h1, h2, h3, h4, At, N, n, nb, p, b, M, T, cs, ds, oc, od, tb, hd, f, F, lo, hi, hB, hR⟩ := h
  have c := fw_clf q (fun c hc => by simp at hc; omega)
  exact RB_mk (s1 := s1) h1 h2 h3 h4 hB (cbf_tr (cbf_ty k) (cbf_cl c)) (fun z => SCi_r (SCi_r (hB z).2.2.2 (k.2 580 (by omega)) (k.2 581 (by omega))) (funext (fun i => (c 580 i (by decide)).2)) (funext (fun i => (c 581 i (by decide)).2))) ((fw_f q 2 (by decide)).trans (rsm_f r 2)) ((fw_f q 3 (by decide)).trans (rsm_f r 3)) ((fw_f q 5 (by decide)).trans (rsm_f r 5)) (fun z => RBd_fw (RBd_rs (hR z) r) q)
/-- behind load -/
theorem RB_l {R : ou atz} {tx : Nat → Int} {n9 : Nat} {s1 s2 : im_S} (hD : RDz tx n9 R) (h1 : s1.1 0 1 = foz R) (h2 : s1.1 0 2 = plz R) (h3 : s1.1 0 3 = knz R) (ne : s1.1 247 3 ≠ s1.1 247 4) (ht : ∀ j A, R = .inr (j, A) → tat s1 A.1 ∧ CLZ s1 A) (q : clf s1 s2) (g2 : wgf s2 2 = foz R) (g3 : wgf s2 3 = plz R) (g5 : wgf s2 5 = knz R) (hr : ∀ j A, R = .inr (j, A) → rat s2 A.1 ∧ RLZ s2 A) : RB s2 := by
  have e : ∀ c k, c < 582 → s2.1 c k = s1.1 c k := fun c k hc => (q c k hc).1
  refine ⟨by rw [e _ _ (by decide), e _ _ (by decide)]; exact ne, by rw [e _ _ (by decide), h1, g2], by rw [e _ _ (by decide), h2, g3], by rw [e _ _ (by decide), h3, g5], ?_⟩
  cases R with
  | inl x => exact ⟨[], 0, 0, 0, fun _ => [], fun _ => [], fun _ _ => 0, fun _ _ => 0, fun _ _ => 0, fun _ _ => 0, fun _ => 0, fun _ => 0, fun _ _ => 0, fun _ => 0, fun _ => 0, fun _ => [], fun _ => 0, fun _ => 0, fun z => absurd ((e 0 3 (by decide)).trans h3) z, fun z => absurd g5 z⟩
  | inr z =>
    obtain ⟨j, A⟩ := z
    obtain ⟨ta, cl⟩ := ht j A rfl
    obtain ⟨ra, rl⟩ := hr j A rfl
    obtain ⟨N, n, nb, p, b, M, T, cs, ds, oc, od, tb, hd, f, F, lo, hi, x, y⟩ := BW_mk (RDz_ok hD).1 ta cl ra rl
    exact ⟨A.1, N, n, nb, p, b, M, T, cs, ds, oc, od, tb, hd, f, F, lo, hi, fun _ => CB_b x (cbf_cl q) (SCi_r x.2.2.2 (funext (fun i => (q 580 i (by decide)).2)) (funext (fun i => (q 581 i (by decide)).2))), fun _ => y⟩
/-- load of the class -/
theorem load_KZ (L : Nat) (ys : Nat → Int32) (s : im_S) (hI : LI s) (h : KP s) (hne : s.1 247 3 ≠ s.1 247 4) (hG : agr (s.1 0 0) (s.2 3) (s.2 583)) : icI gG rm_P L ys 0 86 220 [(2, ((0 : Nat) : Int))] s (fun v s' => ((tI s' ∧ rsm s s' ∧ s'.1 0 0 = 0 ∧ RP s') ∧ KP s') ∧ ldZ (s.2 3) (s.1 0 0).toNat v s') := by
  have hb := hI.2.2.1
  have e0 := hI.2.2.2.2.1
  refine icK (load_K L ys s hI h) (pcI_q9 (c_load9z L ys 86 s h.1 (fun v s' => ldZ (s.2 3) (s.1 0 0).toNat v s') (load_z (KP_1 h) h.1.2.2.2 hne (by omega) (by omega) g3_400 (fun k _ => rfl) (fun k hk => (hG k (by omega)).2) (fun _ _ q => q))))
theorem type_g {x : Int} {s : im_S} {Q : Int → im_S → Prop} (hQ : ∀ z s', tyf s s' → Q z s') : C_type9 x s Q := by
  have rf : tyf s s := gfr_refl _ _ _
  intro v ev
  refine ⟨fun z => hQ _ _ rf, fun z => ⟨fun c _ s1 e1 s2 e2 => hQ _ _ ?_, fun c => hQ _ _ rf⟩⟩
  subst e2; subst e1; exact gfr_pf (gfr_pa (gfr_refl _ _ _) rfl) ⟨rfl, rfl⟩
theorem four_g {x : Int} {s : im_S} {Q : Int → im_S → Prop} (hQ : ∀ z s', tyf s s' → Q z s') : C_four9 x s Q := by
  have rf : tyf s s := gfr_refl _ _ _
  refine ⟨fun a => a.2.2 = s, rfl, ?_⟩
  rintro ⟨u, v, s1⟩ e
  dsimp only at e ⊢
  subst e
  refine ⟨fun _ => ⟨fun _ => ?_, fun _ => hQ _ _ rf⟩, fun _ => ⟨fun _ v ev => rfl, fun _ v ev => ⟨fun _ w ew => rfl, fun _ => hQ _ _ rf⟩⟩⟩
  refine ⟨fun a => tyf s1 a.2, rf, ?_⟩
  rintro ⟨u, s2⟩ h2
  dsimp only at h2 ⊢
  refine ⟨fun _ => hQ _ _ h2, fun _ => ⟨fun _ => h2, fun _ => ⟨fun _ => h2, fun _ _ s3 e3 s4 e4 => ?_⟩⟩⟩
  subst e4; subst e3; exact gfr_pf (gfr_pa h2 rfl) ⟨rfl, rfl⟩
theorem X_type (L : Nat) (ys : Nat → Int32) (d : Nat) (s : im_S) (h : KP s) (h0 : 0 ≤ s.1 0 0) (h4 : s.1 0 0 ≤ 400) (l1 : Int) (l1r : iR l1) : pcI L ys 0 d 226 [(2, ((0 : Nat) : Int)), (0, l1)] s (fun _ s' => (KP s' ∧ tyq l1 (s.1 0 0) (s.2 3) (s'.1 0 0) (s'.2 3)) ∧ tyf s s') := pcI_and9 (T_type L ys d s h h0 h4 l1 l1r) (pcI_q9 (c_type9 L ys d s h.1 l1 l1r (fun _ s' => tyf s s') (type_g (fun _ _ q => q))))
theorem X_four (L : Nat) (ys : Nat → Int32) (d : Nat) (s : im_S) (h : KP s) (h0 : 0 ≤ s.1 0 0) (h4 : s.1 0 0 ≤ 400) (l1 : Int) (l1r : iR l1) : pcI L ys 0 d 211 [(2, ((0 : Nat) : Int)), (0, l1)] s (fun _ s' => (KP s' ∧ fsq l1 (s.1 0 0) (s.2 3) (s'.1 0 0) (s'.2 3)) ∧ tyf s s') := pcI_and9 (T_four L ys d s h h0 h4 l1 l1r) (pcI_q9 (c_four9 L ys d s h.1 l1 l1r (fun _ s' => tyf s s') (four_g (fun _ _ q => q))))
theorem rat_x {s : im_S} {At : ats} (h : rat s At) : wgf s 6 = (At.length : Int) ∧ At.length ≤ 10 ∧ ∀ i, i < At.length → pdb (Fa At i) 9 ∧ ∀ k : Nat, k < 9 → wga s 584 (9 * (i : Int) + k) = pgt (Fa At i) k := by
  refine ⟨h.1, h.2.1, fun i hi => ?_⟩
  obtain ⟨h9, P, w, e, fa⟩ := Fa_9 (At := At) (i := i) hi
  exact ⟨h9, fun k hk => by rw [(rat_row h e).1 k hk, fa, pmk_gt, if_pos hk]⟩
theorem signAt_qz {i p q : Int} {s : im_S} {Q : Int → im_S → Prop} {n nb : Nat} {f : Nat → Int} {F : Nat → List Int} {lo hi : Nat → Rat} (hr : wgf s 5 ≠ 0 → rdy s n nb f F lo hi) (hQ : ∀ (v : Int) (s' : im_S), rfq s s' → (wgf s 5 ≠ 0 → rdy s' n nb f F lo hi) → sgQ (wgf s 5) (wgf s 6) i p q (rpo s i) v → Q v s') : W_signAt i p q s Q := by
  have l2 : ∀ x : Int, -1000000000 ≤ x → x ≤ 1000000000 → lim x ≤ 2 := fun x x1 x2 => lim_le (Nat.lt_of_le_of_lt (show x.natAbs ≤ 1000000000 by omega) (by decide))
  have l1 := lim_one
  unfold W_signAt W_signAt_16
  refine isAtom_v (fun c5 i0 i6 => ⟨fun c => absurd c (by decide), fun _ => isNumber_v (fun p1 p2 q1 q2 => ⟨fun _ => ?_, fun c => absurd c (by decide)⟩) (fun b => ⟨fun c => absurd rfl c, fun _ => hQ _ s rfq_rfl hr (Or.inl ⟨by omega, rfl⟩)⟩)⟩) (fun b => ⟨fun _ => hQ _ s rfq_rfl hr (Or.inl ⟨by omega, rfl⟩), fun c => absurd rfl c⟩)
  have hr' := hr
  have hr := hr c5
  obtain ⟨r0, r1, r2, r3, r4, r5, r6, r7, r8, r9, r10⟩ := id hr
  have fb : ∀ k : Int, 0 ≤ k → k ≤ 8 → -1000000000 ≤ wga s 584 (9 * i + k) ∧ wga s 584 (9 * i + k) ≤ 1000000000 := fun k k0 k8 => by
    have b := r10 (9 * i + k).toNat (by omega)
    rw [show ((9 * i + k).toNat : Int) = 9 * i + k by omega] at b
    exact b
  have lp := l2 p (by omega) (by omega)
  have lq := l2 q (by omega) (by omega)
  have ok : ∀ z, sgA (rpo s i) p q z → sgQ (wgf s 5) (wgf s 6) i p q (rpo s i) z := fun z h => Or.inr ⟨by omega, h⟩
  refine degreeOf_v (by omega) (fun d hd => ⟨fun d0 => ⟨by unfold iR; omega, by have := hd.2.1; omega, ?_⟩, fun dn => hQ 0 s rfq_rfl hr' (ok 0 ⟨d, hd, Or.inl ⟨by omega, rfl⟩⟩)⟩)
  have d8 := hd.2.1
  obtain ⟨dn, edn⟩ : ∃ dn : Nat, d = (dn : Int) := ⟨d.toNat, by omega⟩
  subst edn
  have b0 := fb (dn : Int) (by omega) (by omega)
  have lb0 := l2 _ b0.1 b0.2
  refine whole_ok ⟨by omega, by omega⟩ (by omega) (by omega) (fun s1 a1 a2 a3 => ?_)
  have a12 := a1.2
  refine whole_ok ⟨by decide, by decide⟩ (by omega) (by omega) (fun s2 b1 b2 b3 => ⟨by unfold iR; omega, ?_⟩)
  refine ⟨fun a => st s a.2.2.2 ∧ ∃ t : Nat, t ≤ dn ∧ a.2.2.1 = (dn : Int) - 1 - t ∧ nm a.2.2.2 a.1 (hA (rpo s i) p q dn t) ∧ nm a.2.2.2 a.2.1 (hB q t) ∧ (lim (hA (rpo s i) p q dn t) : Int) ≤ 3 + 3 * (7 - a.2.2.1) ∧ (lim (hB q t) : Int) ≤ 1 + 2 * (7 - a.2.2.1) ∧ wgf a.2.2.2 24 ≤ wgf s 24 + 10 + 200 * (7 - a.2.2.1), fun a => (a.2.2.1 + 1).toNat, ⟨st_tr a1 b1, 0, by omega, by dsimp only; omega, st_nm b1 a2, b2, ?_, ?_, by dsimp only; omega⟩, ?_⟩
  · dsimp only
    show (lim (wga s 584 (9 * i + (dn : Int))) : Int) ≤ _
    omega
  · dsimp only
    show (lim 1 : Int) ≤ _
    omega
  rintro ⟨l6, l7, l8, s3⟩ ⟨i1, t, td, el, i3, i4, i5, i6', i7⟩
  dsimp only at i1 el i3 i4 i5 i6' i7 ⊢
  unfold W_signAt_70
  refine ⟨fun c => sgn_ok i3.1 (fun s4 e4 => ?_), fun c => ?_⟩
  · have sb4 : sb s s4 := by rw [e4]; exact sb_back i1
    have q4 := sb_rfq sb4 (by omega)
    have et : t = dn := by omega
    subst et
    exact hQ _ s4 q4 (fun _ => rdy_rfq q4 (rkl_sb sb4 (by omega) r0) hr) (ok _ ⟨(t : Int), hd, Or.inr ⟨by omega, sg_sign _⟩⟩)
  · have i12 := i1.2
    have lB := lim_mul (hB q t) q
    have lA := lim_mul (hA (rpo s i) p q dn t) p
    have bk := fb l8 (by omega) (by omega)
    have lk := l2 _ bk.1 bk.2
    have lf := lim_mul (wga s 584 (9 * i + l8)) (hB q t * q)
    have ls := lim_add (hA (rpo s i) p q dn t * p) (wga s 584 (9 * i + l8) * (hB q t * q))
    have eA : hA (rpo s i) p q dn (t + 1) = hA (rpo s i) p q dn t * p + wga s 584 (9 * i + l8) * (hB q t * q) := by
      show hA (rpo s i) p q dn t * p + wga s 584 (9 * i + ((dn - 1 - t : Nat) : Int)) * (hB q t * q) = _
      rw [show ((dn - 1 - t : Nat) : Int) = l8 by omega]
    have eB : hB q (t + 1) = hB q t * q := rfl
    refine whole_ok ⟨by omega, by omega⟩ (by omega) (by omega) (fun t1 c1 c2 c3 => ?_)
    have c12 := c1.2
    refine by_ok (st_nm c1 i4) c2 (by omega) (by omega) (fun t2 d1 d2 d3 => ?_)
    have d12 := d1.2
    refine whole_ok ⟨by omega, by omega⟩ (by omega) (by omega) (fun t3 e1 e2 e3 => ?_)
    have e12 := e1.2
    refine by_ok (st_nm e1 (st_nm d1 (st_nm c1 i3))) e2 (by omega) (by omega) (fun t4 f1 f2 f3 => ⟨by unfold iR; omega, by omega, ?_⟩)
    have f12 := f1.2
    have u4 : st s3 t4 := st_tr c1 (st_tr d1 (st_tr e1 f1))
    rw [st_row (st_tr i1 u4) (by decide)]
    refine whole_ok ⟨by omega, by omega⟩ (by omega) (by omega) (fun t5 g1 g2 g3 => ?_)
    have g12 := g1.2
    have u25 : st t2 t5 := st_tr e1 (st_tr f1 g1)
    refine by_ok g2 (st_nm u25 d2) (by omega) (by omega) (fun t6 h1 h2 h3 => ?_)
    have h12 := h1.2
    refine plus_ok (st_nm h1 (st_nm g1 f2)) h2 (by omega) (by omega) (fun t7 k1 k2 k3 => ⟨by unfold iR; omega, ?_⟩)
    have u67 := st_tr h1 k1
    refine ⟨⟨st_tr i1 (st_tr u4 (st_tr g1 u67)), t + 1, by omega, by dsimp only; omega, by rw [eA]; exact k2, by rw [eB]; exact st_nm (st_tr u25 u67) d2, by rw [eA]; dsimp only; omega, by rw [eB]; dsimp only; omega, by dsimp only; omega⟩, by dsimp only; omega⟩
theorem Vc_count (L : Nat) (ys : Nat → Int32) (d : Nat) (s : im_S) (h : KP s) {At : ats} {N n : Nat} {p : Nat → List Int} {M : Nat → Nat → Nat} {cs : Nat → Rat → Int} {oc : Nat → Nat} {tb : Nat → Nat → Int} {hd : Nat → Int} (hB : s.1 0 3 ≠ 0 → CB s At N n p M cs oc tb hd) (l1 : Int) (l1r : iR l1) : pcI L ys 0 d 209 [(2, ((0 : Nat) : Int)), (0, l1)] s (fun z s' => KT s s' ∧ (s.1 0 3 ≠ 0 → SCi s' (fun k => cs (oc k)) N) ∧ z = ctV (s.1 0 3 ≠ 0) l1 (s.1 0 1) (s.1 0 2) (s.1 0 0) (s.1 2 11) (s.1 1 4) (s.1 1 7)) := by
  have hS : s.1 0 3 ≠ 0 → SCi s (fun k => cs (oc k)) N := fun c => (hB c).2.2.2
  exact pcI_and9 (T_count L ys d s h l1 l1r) (pcI_q9 (c_count9 L ys d s h.1 l1 l1r (fun z s' => (s.1 0 3 ≠ 0 → SCi s' (fun k => cs (oc k)) N) ∧ z = ctV (s.1 0 3 ≠ 0) l1 (s.1 0 1) (s.1 0 2) (s.1 0 0) (s.1 2 11) (s.1 1 4) (s.1 1 7)) (count9_v ⟨hS, rfl⟩)))
theorem Vr_count {s : im_S} (hr : rd s) {At : ats} {N : Nat} {nb : Nat} {b : Nat → List Int} {T : Nat → Nat → Nat} {f : Nat → Int} {F : Nat → List Int} {lo hi : Nat → Rat} {ds : Nat → Rat → Int} {od : Nat → Nat} {tb : Nat → Nat → Int} {hd : Nat → Int} (hR : wgf s 5 ≠ 0 → RBd s At N nb b T f F lo hi ds od tb hd) {l1 : Int} : W_count l1 s (fun z s' => wgf s' 1 = wgf s 1 ∧ rd s' ∧ rfq s s' ∧ (wgf s 5 ≠ 0 → RBd s' At N nb b T f F lo hi ds od tb hd) ∧ z = ctV (wgf s 5 ≠ 0) l1 (wgf s 2) (wgf s 3) (wgf s 1) (wgf s 6) (wgf s 41) (hvv hd (2 * N + 1)).1) := by
  have fin : ∀ {z : Int}, z = ctV (wgf s 5 ≠ 0) l1 (wgf s 2) (wgf s 3) (wgf s 1) (wgf s 6) (wgf s 41) (hvv hd (2 * N + 1)).1 → wgf s 1 = wgf s 1 ∧ rd s ∧ rfq s s ∧ (wgf s 5 ≠ 0 → RBd s At N nb b T f F lo hi ds od tb hd) ∧ z = ctV (wgf s 5 ≠ 0) l1 (wgf s 2) (wgf s 3) (wgf s 1) (wgf s 6) (wgf s 41) (hvv hd (2 * N + 1)).1 := fun hz => ⟨rfl, hr, rfq_rfl, hR, hz⟩
  exact count_rv (N := N) (hd := hd) (fun c => ⟨(hR c).2.1.1.1.1, (hR c).2.1.1.2.1, (hR c).2.2.2⟩) (fin rfl)
theorem Ve_count {s s1 : im_S} {At : ats} {N n : Nat} {p : Nat → List Int} {M : Nat → Nat → Nat} {cs : Nat → Rat → Int} {oc : Nat → Nat} {tb : Nat → Nat → Int} {hd : Nat → Int} {nb : Nat} {b : Nat → List Int} {T : Nat → Nat → Nat} {f : Nat → Int} {F : Nat → List Int} {lo hi : Nat → Rat} {ds : Nat → Rat → Int} {od : Nat → Nat} (hk : s.1 0 3 ≠ 0 ↔ wgf s 5 ≠ 0) (hB : s.1 0 3 ≠ 0 → CB s At N n p M cs oc tb hd) (hR : wgf s 5 ≠ 0 → RBd s At N nb b T f F lo hi ds od tb hd) (r : rsm s s1) (e1 : s.1 0 1 = wgf s 2) (e2 : s.1 0 2 = wgf s 3) (e0 : s.1 0 0 = wgf s 1) {l1 : Int} {z z' : Int} (h : z = ctV (s.1 0 3 ≠ 0) l1 (s.1 0 1) (s.1 0 2) (s.1 0 0) (s.1 2 11) (s.1 1 4) (s.1 1 7)) (h' : z' = ctV (wgf s1 5 ≠ 0) l1 (wgf s1 2) (wgf s1 3) (wgf s1 1) (wgf s1 6) (wgf s1 41) (hvv hd (2 * N + 1)).1) : z = z' := by
  have f : ∀ k, wgf s1 k = wgf s k := fun k => rsm_f r k
  rw [f, f, f, f, f, f] at h'
  rw [h, h', e0, e1, e2]
  by_cases c : s.1 0 3 = 0
  · have c' : ¬ (wgf s 5 ≠ 0) := fun z => (hk.2 z) c
    unfold ctV
    rw [if_neg (show ¬ (s.1 0 3 ≠ 0) from fun z => z c), if_neg c']
  · have c' := hk.1 c
    obtain ⟨t, v, ⟨_, _, x7, _⟩, _⟩ := hB c
    obtain ⟨ra, v', _⟩ := hR c'
    have e11 : s.1 2 11 = wgf s 6 := by rw [t.1]; exact ra.1.symm
    have e4 : s.1 1 4 = wgf s 41 := by rw [v.2.2.1]; exact v'.1.2.1.symm
    unfold ctV
    rw [if_pos c, if_pos c', e11, e4, x7]
theorem Vc_atom (L : Nat) (ys : Nat → Int32) (d : Nat) (s : im_S) (h : KP s) {At : ats} {N n : Nat} {p : Nat → List Int} {M : Nat → Nat → Nat} {cs : Nat → Rat → Int} {oc : Nat → Nat} {tb : Nat → Nat → Int} {hd : Nat → Int} (hB : s.1 0 3 ≠ 0 → CB s At N n p M cs oc tb hd) (l1 : Int) (l1r : iR l1) (l2 : Int) (l2r : iR l2) : pcI L ys 0 d 206 [(2, ((0 : Nat) : Int)), (0, l1), (0, l2)] s (fun z s' => KT s s' ∧ (s.1 0 3 ≠ 0 → SCi s' (fun k => cs (oc k)) N) ∧ amQ (s.1 0 3 ≠ 0) l1 l2 At (rtC s N M oc) (drC s n M) z) := by
  have hS : s.1 0 3 ≠ 0 → SCi s (fun k => cs (oc k)) N := fun c => (hB c).2.2.2
  exact pcI_and9 (T_atom L ys d s h l1 l1r l2 l2r) (pcI_q9 (c_atom9 L ys d s h.1 l1 l1r l2 l2r (fun z s' => (s.1 0 3 ≠ 0 → SCi s' (fun k => cs (oc k)) N) ∧ amQ (s.1 0 3 ≠ 0) l1 l2 At (rtC s N M oc) (drC s n M) z) (atom9_v (fun c => ⟨(hB c).1, (hB c).2.1⟩) (fun v hv => ⟨hS, hv⟩))))
theorem Vr_atom {s : im_S} (hr : rd s) {At : ats} {N : Nat} {nb : Nat} {b : Nat → List Int} {T : Nat → Nat → Nat} {f : Nat → Int} {F : Nat → List Int} {lo hi : Nat → Rat} {ds : Nat → Rat → Int} {od : Nat → Nat} {tb : Nat → Nat → Int} {hd : Nat → Int} (hR : wgf s 5 ≠ 0 → RBd s At N nb b T f F lo hi ds od tb hd) {l1 : Int} {l2 : Int} : W_atom l1 l2 s (fun z s' => wgf s' 1 = wgf s 1 ∧ rd s' ∧ rfq s s' ∧ (wgf s 5 ≠ 0 → RBd s' At N nb b T f F lo hi ds od tb hd) ∧ amQ (wgf s 5 ≠ 0) l1 l2 At (rtR s N T od) (drR nb b T) z) := by
  have fin : ∀ {z : Int}, amQ (wgf s 5 ≠ 0) l1 l2 At (rtR s N T od) (drR nb b T) z → wgf s 1 = wgf s 1 ∧ rd s ∧ rfq s s ∧ (wgf s 5 ≠ 0 → RBd s At N nb b T f F lo hi ds od tb hd) ∧ amQ (wgf s 5 ≠ 0) l1 l2 At (rtR s N T od) (drR nb b T) z := fun hz => ⟨rfl, hr, rfq_rfl, hR, hz⟩
  exact atom_rv (fun c => ⟨(hR c).1, (hR c).2.1⟩) (fun v hv => fin hv)
theorem Ve_atom {s s1 : im_S} {At : ats} {N n : Nat} {p : Nat → List Int} {M : Nat → Nat → Nat} {cs : Nat → Rat → Int} {oc : Nat → Nat} {tb : Nat → Nat → Int} {hd : Nat → Int} {nb : Nat} {b : Nat → List Int} {T : Nat → Nat → Nat} {f : Nat → Int} {F : Nat → List Int} {lo hi : Nat → Rat} {ds : Nat → Rat → Int} {od : Nat → Nat} (hk : s.1 0 3 ≠ 0 ↔ wgf s 5 ≠ 0) (hB : s.1 0 3 ≠ 0 → CB s At N n p M cs oc tb hd) (hR : wgf s 5 ≠ 0 → RBd s At N nb b T f F lo hi ds od tb hd) (r : rsm s s1) (e1 : s.1 0 1 = wgf s 2) (e2 : s.1 0 2 = wgf s 3) (e0 : s.1 0 0 = wgf s 1) {l1 : Int} {l2 : Int} {z z' : Int} (h : amQ (s.1 0 3 ≠ 0) l1 l2 At (rtC s N M oc) (drC s n M) z) (h' : amQ (wgf s1 5 ≠ 0) l1 l2 At (rtR s1 N T od) (drR nb b T) z') : z = z' := by
  have k5 : wgf s1 5 = wgf s 5 := rsm_f r 5
  have hK : (wgf s1 5 ≠ 0) = (s.1 0 3 ≠ 0) := by rw [k5]; exact (propext hk).symm
  rw [hK] at h'
  have hR1 : s.1 0 3 ≠ 0 → RBd s1 At N nb b T f F lo hi ds od tb hd := fun c => RBd_rs (hR (hk.1 c)) r
  exact amQ_u h h' (fun c hi => (LINK_rt (hB c).2.1 (hR1 c).2.1 hi).1) (fun c hi => (LINK_rt (hB c).2.1 (hR1 c).2.1 hi).2)
theorem Vc_judge (L : Nat) (ys : Nat → Int32) (d : Nat) (s : im_S) (h : KP s) {At : ats} {N n : Nat} {p : Nat → List Int} {M : Nat → Nat → Nat} {cs : Nat → Rat → Int} {oc : Nat → Nat} {tb : Nat → Nat → Int} {hd : Nat → Int} (hB : s.1 0 3 ≠ 0 → CB s At N n p M cs oc tb hd) (l1 : Int) (l1r : iR l1) : pcI L ys 0 d 219 [(2, ((0 : Nat) : Int)), (0, l1)] s (fun z s' => KT s s' ∧ (s.1 0 3 ≠ 0 → SCi s' (fun k => cs (oc k)) N) ∧ jdQ (s.1 0 3 ≠ 0) l1 N (hvv hd (2 * N + 1)) z) := by
  have hS : s.1 0 3 ≠ 0 → SCi s (fun k => cs (oc k)) N := fun c => (hB c).2.2.2
  exact pcI_and9 (T_judge L ys d s h l1 l1r) (pcI_q9 (c_judge9 L ys d s h.1 l1 l1r (fun z s' => (s.1 0 3 ≠ 0 → SCi s' (fun k => cs (oc k)) N) ∧ jdQ (s.1 0 3 ≠ 0) l1 N (hvv hd (2 * N + 1)) z) (judge9_v (fun c => ⟨(hB c).2.1.1, (hB c).2.1.2.2.1, (hB c).2.2.1.2.2⟩) (fun v hv => ⟨hS, hv⟩))))
theorem Vr_judge {s : im_S} (hr : rd s) {At : ats} {N : Nat} {nb : Nat} {b : Nat → List Int} {T : Nat → Nat → Nat} {f : Nat → Int} {F : Nat → List Int} {lo hi : Nat → Rat} {ds : Nat → Rat → Int} {od : Nat → Nat} {tb : Nat → Nat → Int} {hd : Nat → Int} (hR : wgf s 5 ≠ 0 → RBd s At N nb b T f F lo hi ds od tb hd) {l1 : Int} : W_judge l1 s (fun z s' => wgf s' 1 = wgf s 1 ∧ rd s' ∧ rfq s s' ∧ (wgf s 5 ≠ 0 → RBd s' At N nb b T f F lo hi ds od tb hd) ∧ jdQ (wgf s 5 ≠ 0) l1 N (hvv hd (2 * N + 1)) z) := by
  have fin : ∀ {z : Int}, jdQ (wgf s 5 ≠ 0) l1 N (hvv hd (2 * N + 1)) z → wgf s 1 = wgf s 1 ∧ rd s ∧ rfq s s ∧ (wgf s 5 ≠ 0 → RBd s At N nb b T f F lo hi ds od tb hd) ∧ jdQ (wgf s 5 ≠ 0) l1 N (hvv hd (2 * N + 1)) z := fun hz => ⟨rfl, hr, rfq_rfl, hR, hz⟩
  exact judge_rv (fun c => ⟨(hR c).2.1.1.1.1, (hR c).2.1.1.2.1, (hR c).2.2.2⟩) (fun v hv => fin hv)
theorem Ve_judge {s s1 : im_S} {At : ats} {N n : Nat} {p : Nat → List Int} {M : Nat → Nat → Nat} {cs : Nat → Rat → Int} {oc : Nat → Nat} {tb : Nat → Nat → Int} {hd : Nat → Int} {nb : Nat} {b : Nat → List Int} {T : Nat → Nat → Nat} {f : Nat → Int} {F : Nat → List Int} {lo hi : Nat → Rat} {ds : Nat → Rat → Int} {od : Nat → Nat} (hk : s.1 0 3 ≠ 0 ↔ wgf s 5 ≠ 0) (hB : s.1 0 3 ≠ 0 → CB s At N n p M cs oc tb hd) (hR : wgf s 5 ≠ 0 → RBd s At N nb b T f F lo hi ds od tb hd) (r : rsm s s1) (e1 : s.1 0 1 = wgf s 2) (e2 : s.1 0 2 = wgf s 3) (e0 : s.1 0 0 = wgf s 1) {l1 : Int} {z z' : Int} (h : jdQ (s.1 0 3 ≠ 0) l1 N (hvv hd (2 * N + 1)) z) (h' : jdQ (wgf s1 5 ≠ 0) l1 N (hvv hd (2 * N + 1)) z') : z = z' := by
  have k5 : wgf s1 5 = wgf s 5 := rsm_f r 5
  have hK : (wgf s1 5 ≠ 0) = (s.1 0 3 ≠ 0) := by rw [k5]; exact (propext hk).symm
  rw [hK] at h'
  have hR1 : s.1 0 3 ≠ 0 → RBd s1 At N nb b T f F lo hi ds od tb hd := fun c => RBd_rs (hR (hk.1 c)) r
  exact jdQ_u Iff.rfl (fun _ => rfl) h h'
theorem Vc_holds (L : Nat) (ys : Nat → Int32) (d : Nat) (s : im_S) (h : KP s) {At : ats} {N n : Nat} {p : Nat → List Int} {M : Nat → Nat → Nat} {cs : Nat → Rat → Int} {oc : Nat → Nat} {tb : Nat → Nat → Int} {hd : Nat → Int} (hB : s.1 0 3 ≠ 0 → CB s At N n p M cs oc tb hd) (l1 : Int) (l1r : iR l1) : pcI L ys 0 d 212 [(2, ((0 : Nat) : Int)), (0, l1)] s (fun z s' => KT s s' ∧ (s.1 0 3 ≠ 0 → SCi s' (fun k => cs (oc k)) N) ∧ hoQ (s.1 0 3 ≠ 0) l1 N hd z) := by
  have hS : s.1 0 3 ≠ 0 → SCi s (fun k => cs (oc k)) N := fun c => (hB c).2.2.2
  exact pcI_and9 (T_holds L ys d s h l1 l1r) (pcI_q9 (c_holds9 L ys d s h.1 l1 l1r (fun z s' => (s.1 0 3 ≠ 0 → SCi s' (fun k => cs (oc k)) N) ∧ hoQ (s.1 0 3 ≠ 0) l1 N hd z) (holds9_v (fun c => ⟨(hB c).2.1.1, (hB c).2.1.2.2.1, (hB c).2.2.1.2.1⟩) (fun v hv => ⟨hS, hv⟩))))
theorem Vr_holds {s : im_S} (hr : rd s) {At : ats} {N : Nat} {nb : Nat} {b : Nat → List Int} {T : Nat → Nat → Nat} {f : Nat → Int} {F : Nat → List Int} {lo hi : Nat → Rat} {ds : Nat → Rat → Int} {od : Nat → Nat} {tb : Nat → Nat → Int} {hd : Nat → Int} (hR : wgf s 5 ≠ 0 → RBd s At N nb b T f F lo hi ds od tb hd) {l1 : Int} : W_holds l1 s (fun z s' => wgf s' 1 = wgf s 1 ∧ rd s' ∧ rfq s s' ∧ (wgf s 5 ≠ 0 → RBd s' At N nb b T f F lo hi ds od tb hd) ∧ hoQ (wgf s 5 ≠ 0) l1 N hd z) := by
  have fin : ∀ {z : Int}, hoQ (wgf s 5 ≠ 0) l1 N hd z → wgf s 1 = wgf s 1 ∧ rd s ∧ rfq s s ∧ (wgf s 5 ≠ 0 → RBd s At N nb b T f F lo hi ds od tb hd) ∧ hoQ (wgf s 5 ≠ 0) l1 N hd z := fun hz => ⟨rfl, hr, rfq_rfl, hR, hz⟩
  exact holds_rv (fun c => ⟨(hR c).2.1.1.1.1, (hR c).2.1.1.2.1, (hR c).2.2.2⟩) (fun v hv => fin hv)
theorem Ve_holds {s s1 : im_S} {At : ats} {N n : Nat} {p : Nat → List Int} {M : Nat → Nat → Nat} {cs : Nat → Rat → Int} {oc : Nat → Nat} {tb : Nat → Nat → Int} {hd : Nat → Int} {nb : Nat} {b : Nat → List Int} {T : Nat → Nat → Nat} {f : Nat → Int} {F : Nat → List Int} {lo hi : Nat → Rat} {ds : Nat → Rat → Int} {od : Nat → Nat} (hk : s.1 0 3 ≠ 0 ↔ wgf s 5 ≠ 0) (hB : s.1 0 3 ≠ 0 → CB s At N n p M cs oc tb hd) (hR : wgf s 5 ≠ 0 → RBd s At N nb b T f F lo hi ds od tb hd) (r : rsm s s1) (e1 : s.1 0 1 = wgf s 2) (e2 : s.1 0 2 = wgf s 3) (e0 : s.1 0 0 = wgf s 1) {l1 : Int} {z z' : Int} (h : hoQ (s.1 0 3 ≠ 0) l1 N hd z) (h' : hoQ (wgf s1 5 ≠ 0) l1 N hd z') : z = z' := by
  have k5 : wgf s1 5 = wgf s 5 := rsm_f r 5
  have hK : (wgf s1 5 ≠ 0) = (s.1 0 3 ≠ 0) := by rw [k5]; exact (propext hk).symm
  rw [hK] at h'
  have hR1 : s.1 0 3 ≠ 0 → RBd s1 At N nb b T f F lo hi ds od tb hd := fun c => RBd_rs (hR (hk.1 c)) r
  exact hoQ_u Iff.rfl (fun _ _ _ => rfl) h h'
theorem Vc_sign (L : Nat) (ys : Nat → Int32) (d : Nat) (s : im_S) (h : KP s) {At : ats} {N n : Nat} {p : Nat → List Int} {M : Nat → Nat → Nat} {cs : Nat → Rat → Int} {oc : Nat → Nat} {tb : Nat → Nat → Int} {hd : Nat → Int} (hB : s.1 0 3 ≠ 0 → CB s At N n p M cs oc tb hd) (l1 : Int) (l1r : iR l1) (l2 : Int) (l2r : iR l2) : pcI L ys 0 d 222 [(2, ((0 : Nat) : Int)), (0, l1), (0, l2)] s (fun z s' => KT s s' ∧ (s.1 0 3 ≠ 0 → SCi s' (fun k => cs (oc k)) N) ∧ snQ (s.1 0 3 ≠ 0) l1 l2 N At.length tb z) := by
  have hS : s.1 0 3 ≠ 0 → SCi s (fun k => cs (oc k)) N := fun c => (hB c).2.2.2
  exact pcI_and9 (T_sign L ys d s h l1 l1r l2 l2r) (pcI_q9 (c_sign9 L ys d s h.1 l1 l1r l2 l2r (fun z s' => (s.1 0 3 ≠ 0 → SCi s' (fun k => cs (oc k)) N) ∧ snQ (s.1 0 3 ≠ 0) l1 l2 N At.length tb z) (sign9_v (fun c => ⟨(hB c).2.1.1, (hB c).1.2.1, (hB c).2.1.2.2.1, (hB c).1.1, (hB c).2.2.1.1⟩) (fun v hv => ⟨hS, hv⟩))))
theorem Vr_sign {s : im_S} (hr : rd s) {At : ats} {N : Nat} {nb : Nat} {b : Nat → List Int} {T : Nat → Nat → Nat} {f : Nat → Int} {F : Nat → List Int} {lo hi : Nat → Rat} {ds : Nat → Rat → Int} {od : Nat → Nat} {tb : Nat → Nat → Int} {hd : Nat → Int} (hR : wgf s 5 ≠ 0 → RBd s At N nb b T f F lo hi ds od tb hd) {l1 : Int} {l2 : Int} : W_sign l1 l2 s (fun z s' => wgf s' 1 = wgf s 1 ∧ rd s' ∧ rfq s s' ∧ (wgf s 5 ≠ 0 → RBd s' At N nb b T f F lo hi ds od tb hd) ∧ snQ (wgf s 5 ≠ 0) l1 l2 N At.length tb z) := by
  have fin : ∀ {z : Int}, snQ (wgf s 5 ≠ 0) l1 l2 N At.length tb z → wgf s 1 = wgf s 1 ∧ rd s ∧ rfq s s ∧ (wgf s 5 ≠ 0 → RBd s At N nb b T f F lo hi ds od tb hd) ∧ snQ (wgf s 5 ≠ 0) l1 l2 N At.length tb z := fun hz => ⟨rfl, hr, rfq_rfl, hR, hz⟩
  exact sign_rv (fun c => ⟨(hR c).2.1.1.1.1, (hR c).1.2.1, (hR c).2.1.1.2.1, (hR c).1.1, (hR c).2.2.1⟩) (fun v hv => fin hv)
theorem Ve_sign {s s1 : im_S} {At : ats} {N n : Nat} {p : Nat → List Int} {M : Nat → Nat → Nat} {cs : Nat → Rat → Int} {oc : Nat → Nat} {tb : Nat → Nat → Int} {hd : Nat → Int} {nb : Nat} {b : Nat → List Int} {T : Nat → Nat → Nat} {f : Nat → Int} {F : Nat → List Int} {lo hi : Nat → Rat} {ds : Nat → Rat → Int} {od : Nat → Nat} (hk : s.1 0 3 ≠ 0 ↔ wgf s 5 ≠ 0) (hB : s.1 0 3 ≠ 0 → CB s At N n p M cs oc tb hd) (hR : wgf s 5 ≠ 0 → RBd s At N nb b T f F lo hi ds od tb hd) (r : rsm s s1) (e1 : s.1 0 1 = wgf s 2) (e2 : s.1 0 2 = wgf s 3) (e0 : s.1 0 0 = wgf s 1) {l1 : Int} {l2 : Int} {z z' : Int} (h : snQ (s.1 0 3 ≠ 0) l1 l2 N At.length tb z) (h' : snQ (wgf s1 5 ≠ 0) l1 l2 N At.length tb z') : z = z' := by
  have k5 : wgf s1 5 = wgf s 5 := rsm_f r 5
  have hK : (wgf s1 5 ≠ 0) = (s.1 0 3 ≠ 0) := by rw [k5]; exact (propext hk).symm
  rw [hK] at h'
  have hR1 : s.1 0 3 ≠ 0 → RBd s1 At N nb b T f F lo hi ds od tb hd := fun c => RBd_rs (hR (hk.1 c)) r
  exact snQ_u Iff.rfl (fun _ _ _ _ _ => rfl) h h'
theorem Vc_root (L : Nat) (ys : Nat → Int32) (d : Nat) (s : im_S) (h : KP s) {At : ats} {N n : Nat} {p : Nat → List Int} {M : Nat → Nat → Nat} {cs : Nat → Rat → Int} {oc : Nat → Nat} {tb : Nat → Nat → Int} {hd : Nat → Int} (hB : s.1 0 3 ≠ 0 → CB s At N n p M cs oc tb hd) (l1 : Int) (l1r : iR l1) (l2 : Int) (l2r : iR l2) : pcI L ys 1 d 221 [(2, ((0 : Nat) : Int)), (0, l1), (0, l2)] s (fun z s' => KT s s' ∧ (s.1 0 3 ≠ 0 → SCi s' (fun k => cs (oc k)) N) ∧ roQ (s.1 0 3 ≠ 0) l1 l2 (fun k => cs (oc k)) N z) := by
  have hS : s.1 0 3 ≠ 0 → SCi s (fun k => cs (oc k)) N := fun c => (hB c).2.2.2
  exact pcI_and9 (T_root L ys d s h l1 l1r l2 l2r) (pcI_q9 (c_root9 L ys d s h.1 l1 l1r l2 l2r (fun z s' => (s.1 0 3 ≠ 0 → SCi s' (fun k => cs (oc k)) N) ∧ roQ (s.1 0 3 ≠ 0) l1 l2 (fun k => cs (oc k)) N z) (root9_v (fun c => (hB c).2.1) (fun v s' wk hv => ⟨fun c => SCi_r (hS c) (wk.2 580 (by omega)) (wk.2 581 (by omega)), hv⟩))))
theorem Vr_root {s : im_S} (hr : rd s) {At : ats} {N : Nat} {nb : Nat} {b : Nat → List Int} {T : Nat → Nat → Nat} {f : Nat → Int} {F : Nat → List Int} {lo hi : Nat → Rat} {ds : Nat → Rat → Int} {od : Nat → Nat} {tb : Nat → Nat → Int} {hd : Nat → Int} (hR : wgf s 5 ≠ 0 → RBd s At N nb b T f F lo hi ds od tb hd) {l1 : Int} {l2 : Int} : W_root l1 l2 s (fun z s' => wgf s' 1 = wgf s 1 ∧ rd s' ∧ rfq s s' ∧ (wgf s 5 ≠ 0 → RBd s' At N nb b T f F lo hi ds od tb hd) ∧ roQ (wgf s 5 ≠ 0) l1 l2 (fun k => ds (od k)) N z) := by
  have fin : ∀ (z : Int) (s' : im_S), rfq s s' → (wgf s 5 ≠ 0 → RVl s' (Fa At) At.length N nb b T f F lo hi ds od) → roQ (wgf s 5 ≠ 0) l1 l2 (fun k => ds (od k)) N z → wgf s' 1 = wgf s 1 ∧ rd s' ∧ rfq s s' ∧ (wgf s 5 ≠ 0 → RBd s' At N nb b T f F lo hi ds od tb hd) ∧ roQ (wgf s 5 ≠ 0) l1 l2 (fun k => ds (od k)) N z := fun z s' q v hz => ⟨rfq_f q 1 (by decide), by
    by_cases c : wgf s 5 = 0
    · exact Or.inl ((rfq_f q 5 (by decide)).trans c)
    · exact Or.inr ⟨N, nb, f, F, lo, hi, (v c).1⟩, q, fun c => RBd_q (hR c) q (v c), hz⟩
  exact root_rv (fun c => (hR c).2.1) (fun v s' q v' hv => fin v s' q v' hv)
theorem Ve_root {s s1 : im_S} {At : ats} {N n : Nat} {p : Nat → List Int} {M : Nat → Nat → Nat} {cs : Nat → Rat → Int} {oc : Nat → Nat} {tb : Nat → Nat → Int} {hd : Nat → Int} {nb : Nat} {b : Nat → List Int} {T : Nat → Nat → Nat} {f : Nat → Int} {F : Nat → List Int} {lo hi : Nat → Rat} {ds : Nat → Rat → Int} {od : Nat → Nat} (hk : s.1 0 3 ≠ 0 ↔ wgf s 5 ≠ 0) (hB : s.1 0 3 ≠ 0 → CB s At N n p M cs oc tb hd) (hR : wgf s 5 ≠ 0 → RBd s At N nb b T f F lo hi ds od tb hd) (r : rsm s s1) (e1 : s.1 0 1 = wgf s 2) (e2 : s.1 0 2 = wgf s 3) (e0 : s.1 0 0 = wgf s 1) {l1 : Int} {l2 : Int} {z z' : Int} (h : roQ (s.1 0 3 ≠ 0) l1 l2 (fun k => cs (oc k)) N z) (h' : roQ (wgf s1 5 ≠ 0) l1 l2 (fun k => ds (od k)) N z') : z = z' := by
  have k5 : wgf s1 5 = wgf s 5 := rsm_f r 5
  have hK : (wgf s1 5 ≠ 0) = (s.1 0 3 ≠ 0) := by rw [k5]; exact (propext hk).symm
  rw [hK] at h'
  have hR1 : s.1 0 3 ≠ 0 → RBd s1 At N nb b T f F lo hi ds od tb hd := fun c => RBd_rs (hR (hk.1 c)) r
  have he : s.1 0 3 ≠ 0 → ∀ k, k < N → ds (od k) = cs (oc k) := fun c k hk => ((LINK (hB c).2.1 (hR1 c).2.1).2 k hk).symm
  have hcut : s.1 0 3 ≠ 0 → ∀ k, k < N → cut (cs (oc k)) := fun c k hk => (CV_at (hB c).2.1 hk).2.2.1
  by_cases c : s.1 0 3 = 0
  · rcases h with ⟨_, a⟩ | ⟨a, _⟩
    · rcases h' with ⟨_, a'⟩ | ⟨a', _⟩
      · omega
      · exact absurd c a'.1
    · exact absurd c a.1
  · exact roQ_u9 (hcut c) h (roQ_c (he c) h')
theorem Vc_times (L : Nat) (ys : Nat → Int32) (d : Nat) (s : im_S) (h : KP s) {At : ats} {N n : Nat} {p : Nat → List Int} {M : Nat → Nat → Nat} {cs : Nat → Rat → Int} {oc : Nat → Nat} {tb : Nat → Nat → Int} {hd : Nat → Int} (hB : s.1 0 3 ≠ 0 → CB s At N n p M cs oc tb hd) (l1 : Int) (l1r : iR l1) (l2 : Int) (l2r : iR l2) : pcI L ys 0 d 225 [(2, ((0 : Nat) : Int)), (0, l1), (0, l2)] s (fun z s' => KT s s' ∧ (s.1 0 3 ≠ 0 → SCi s' (fun k => cs (oc k)) N) ∧ tiQ (s.1 0 3 ≠ 0) l1 l2 N At.length (Fa At) (fun k i => M (owC s oc k) i) z) := by
  have hS : s.1 0 3 ≠ 0 → SCi s (fun k => cs (oc k)) N := fun c => (hB c).2.2.2
  exact pcI_and9 (T_times L ys d s h l1 l1r l2 l2r) (pcI_q9 (c_times9 L ys d s h.1 l1 l1r l2 l2r (fun z s' => (s.1 0 3 ≠ 0 → SCi s' (fun k => cs (oc k)) N) ∧ tiQ (s.1 0 3 ≠ 0) l1 l2 N At.length (Fa At) (fun k i => M (owC s oc k) i) z) (times9_v (fun c => ⟨(hB c).1, (hB c).2.1⟩) (fun v hv => ⟨hS, hv⟩))))
theorem Vr_times {s : im_S} (hr : rd s) {At : ats} {N : Nat} {nb : Nat} {b : Nat → List Int} {T : Nat → Nat → Nat} {f : Nat → Int} {F : Nat → List Int} {lo hi : Nat → Rat} {ds : Nat → Rat → Int} {od : Nat → Nat} {tb : Nat → Nat → Int} {hd : Nat → Int} (hR : wgf s 5 ≠ 0 → RBd s At N nb b T f F lo hi ds od tb hd) {l1 : Int} {l2 : Int} : W_times l1 l2 s (fun z s' => wgf s' 1 = wgf s 1 ∧ rd s' ∧ rfq s s' ∧ (wgf s 5 ≠ 0 → RBd s' At N nb b T f F lo hi ds od tb hd) ∧ tiQ (wgf s 5 ≠ 0) l1 l2 N At.length (Fa At) (fun k i => T (owR s od k) i) z) := by
  have fin : ∀ {z : Int}, tiQ (wgf s 5 ≠ 0) l1 l2 N At.length (Fa At) (fun k i => T (owR s od k) i) z → wgf s 1 = wgf s 1 ∧ rd s ∧ rfq s s ∧ (wgf s 5 ≠ 0 → RBd s At N nb b T f F lo hi ds od tb hd) ∧ tiQ (wgf s 5 ≠ 0) l1 l2 N At.length (Fa At) (fun k i => T (owR s od k) i) z := fun hz => ⟨rfl, hr, rfq_rfl, hR, hz⟩
  exact times_rv (fun c => (hR c).2.1) (fun c => rat_x (hR c).1) (fun v hv => fin hv)
theorem Ve_times {s s1 : im_S} {At : ats} {N n : Nat} {p : Nat → List Int} {M : Nat → Nat → Nat} {cs : Nat → Rat → Int} {oc : Nat → Nat} {tb : Nat → Nat → Int} {hd : Nat → Int} {nb : Nat} {b : Nat → List Int} {T : Nat → Nat → Nat} {f : Nat → Int} {F : Nat → List Int} {lo hi : Nat → Rat} {ds : Nat → Rat → Int} {od : Nat → Nat} (hk : s.1 0 3 ≠ 0 ↔ wgf s 5 ≠ 0) (hB : s.1 0 3 ≠ 0 → CB s At N n p M cs oc tb hd) (hR : wgf s 5 ≠ 0 → RBd s At N nb b T f F lo hi ds od tb hd) (r : rsm s s1) (e1 : s.1 0 1 = wgf s 2) (e2 : s.1 0 2 = wgf s 3) (e0 : s.1 0 0 = wgf s 1) {l1 : Int} {l2 : Int} {z z' : Int} (h : tiQ (s.1 0 3 ≠ 0) l1 l2 N At.length (Fa At) (fun k i => M (owC s oc k) i) z) (h' : tiQ (wgf s1 5 ≠ 0) l1 l2 N At.length (Fa At) (fun k i => T (owR s1 od k) i) z') : z = z' := by
  have k5 : wgf s1 5 = wgf s 5 := rsm_f r 5
  have hK : (wgf s1 5 ≠ 0) = (s.1 0 3 ≠ 0) := by rw [k5]; exact (propext hk).symm
  rw [hK] at h'
  have hR1 : s.1 0 3 ≠ 0 → RBd s1 At N nb b T f F lo hi ds od tb hd := fun c => RBd_rs (hR (hk.1 c)) r
  rcases h with ⟨a, x⟩ | ⟨a, x⟩ <;> rcases h' with ⟨a', x'⟩ | ⟨a', x'⟩
  · omega
  · exfalso; rcases a with q | q | q | q | q <;> first | exact q a'.1 | omega
  · exfalso; rcases a' with q | q | q | q | q <;> first | exact q a.1 | omega
  · rcases x with ⟨x1, x2⟩ | ⟨x1, x2⟩ <;> rcases x' with ⟨y1, y2⟩ | ⟨y1, y2⟩
    · omega
    · exact absurd x1 y1
    · exact absurd y1 x1
    · rw [x2, y2]
      have v := (hB a.1).2.1
      have v' := (hR1 a.1).2.1
      have hk' : l1.toNat < N := by omega
      obtain ⟨w1, w2, w3⟩ := owC_at v hk'
      obtain ⟨u1, u2, u3⟩ := owR_at v' hk'
      show ((M (owC s oc l1.toNat) l2.toNat : Nat) : Int) = ((T (owR s1 od l1.toNat) l2.toNat : Nat) : Int)
      rw [LINK_mu v v' hk' (show l2.toNat < At.length by omega) w1 w3 u1 u3]
theorem Vc_exact (L : Nat) (ys : Nat → Int32) (d : Nat) (s : im_S) (h : KP s) {At : ats} {N n : Nat} {p : Nat → List Int} {M : Nat → Nat → Nat} {cs : Nat → Rat → Int} {oc : Nat → Nat} {tb : Nat → Nat → Int} {hd : Nat → Int} (hB : s.1 0 3 ≠ 0 → CB s At N n p M cs oc tb hd) (l1 : Int) (l1r : iR l1) (l2 : Int) (l2r : iR l2) : pcI L ys 1 d 210 [(2, ((0 : Nat) : Int)), (0, l1), (0, l2)] s (fun z s' => KT s s' ∧ (s.1 0 3 ≠ 0 → SCi s' (fun k => cs (oc k)) N) ∧ exQ (s.1 0 3 ≠ 0) l1 l2 (fun k => cs (oc k)) N z) := by
  have hS : s.1 0 3 ≠ 0 → SCi s (fun k => cs (oc k)) N := fun c => (hB c).2.2.2
  exact pcI_and9 (T_exact L ys d s h l1 l1r l2 l2r) (pcI_q9 (c_exact9 L ys d s h.1 l1 l1r l2 l2r (fun z s' => (s.1 0 3 ≠ 0 → SCi s' (fun k => cs (oc k)) N) ∧ exQ (s.1 0 3 ≠ 0) l1 l2 (fun k => cs (oc k)) N z) (exact9_v (fun c => (hB c).2.1) (fun v hv => ⟨hS, hv⟩))))
theorem Vr_exact {s : im_S} (hr : rd s) {At : ats} {N : Nat} {nb : Nat} {b : Nat → List Int} {T : Nat → Nat → Nat} {f : Nat → Int} {F : Nat → List Int} {lo hi : Nat → Rat} {ds : Nat → Rat → Int} {od : Nat → Nat} {tb : Nat → Nat → Int} {hd : Nat → Int} (hR : wgf s 5 ≠ 0 → RBd s At N nb b T f F lo hi ds od tb hd) {l1 : Int} {l2 : Int} : W_exact l1 l2 s (fun z s' => wgf s' 1 = wgf s 1 ∧ rd s' ∧ rfq s s' ∧ (wgf s 5 ≠ 0 → RBd s' At N nb b T f F lo hi ds od tb hd) ∧ exQ (wgf s 5 ≠ 0) l1 l2 (fun k => ds (od k)) N z) := by
  have fin : ∀ {z : Int}, exQ (wgf s 5 ≠ 0) l1 l2 (fun k => ds (od k)) N z → wgf s 1 = wgf s 1 ∧ rd s ∧ rfq s s ∧ (wgf s 5 ≠ 0 → RBd s At N nb b T f F lo hi ds od tb hd) ∧ exQ (wgf s 5 ≠ 0) l1 l2 (fun k => ds (od k)) N z := fun hz => ⟨rfl, hr, rfq_rfl, hR, hz⟩
  exact exact_rv (fun c => (hR c).2.1) (fun v hv => fin hv)
theorem Ve_exact {s s1 : im_S} {At : ats} {N n : Nat} {p : Nat → List Int} {M : Nat → Nat → Nat} {cs : Nat → Rat → Int} {oc : Nat → Nat} {tb : Nat → Nat → Int} {hd : Nat → Int} {nb : Nat} {b : Nat → List Int} {T : Nat → Nat → Nat} {f : Nat → Int} {F : Nat → List Int} {lo hi : Nat → Rat} {ds : Nat → Rat → Int} {od : Nat → Nat} (hk : s.1 0 3 ≠ 0 ↔ wgf s 5 ≠ 0) (hB : s.1 0 3 ≠ 0 → CB s At N n p M cs oc tb hd) (hR : wgf s 5 ≠ 0 → RBd s At N nb b T f F lo hi ds od tb hd) (r : rsm s s1) (e1 : s.1 0 1 = wgf s 2) (e2 : s.1 0 2 = wgf s 3) (e0 : s.1 0 0 = wgf s 1) {l1 : Int} {l2 : Int} {z z' : Int} (h : exQ (s.1 0 3 ≠ 0) l1 l2 (fun k => cs (oc k)) N z) (h' : exQ (wgf s1 5 ≠ 0) l1 l2 (fun k => ds (od k)) N z') : z = z' := by
  have k5 : wgf s1 5 = wgf s 5 := rsm_f r 5
  have hK : (wgf s1 5 ≠ 0) = (s.1 0 3 ≠ 0) := by rw [k5]; exact (propext hk).symm
  rw [hK] at h'
  have hR1 : s.1 0 3 ≠ 0 → RBd s1 At N nb b T f F lo hi ds od tb hd := fun c => RBd_rs (hR (hk.1 c)) r
  have he : s.1 0 3 ≠ 0 → ∀ k, k < N → ds (od k) = cs (oc k) := fun c k hk => ((LINK (hB c).2.1 (hR1 c).2.1).2 k hk).symm
  have hcut : s.1 0 3 ≠ 0 → ∀ k, k < N → cut (cs (oc k)) := fun c k hk => (CV_at (hB c).2.1 hk).2.2.1
  by_cases c : s.1 0 3 = 0
  · rcases h with ⟨_, a⟩ | ⟨a, _⟩
    · rcases h' with ⟨_, a'⟩ | ⟨a', _⟩
      · omega
      · exact absurd c a'.1
    · exact absurd c a.1
  · exact exQ_u (hcut c) h (exQ_c (he c) h')
theorem Vc_common (L : Nat) (ys : Nat → Int32) (d : Nat) (s : im_S) (h : KP s) {At : ats} {N n : Nat} {p : Nat → List Int} {M : Nat → Nat → Nat} {cs : Nat → Rat → Int} {oc : Nat → Nat} {tb : Nat → Nat → Int} {hd : Nat → Int} (hB : s.1 0 3 ≠ 0 → CB s At N n p M cs oc tb hd) (l1 : Int) (l1r : iR l1) : pcI L ys 0 d 208 [(2, ((0 : Nat) : Int)), (0, l1)] s (fun z s' => KT s s' ∧ (s.1 0 3 ≠ 0 → SCi s' (fun k => cs (oc k)) N) ∧ coQ (s.1 0 3 ≠ 0) l1 N (cmC s At.length n M oc) z) := by
  have hS : s.1 0 3 ≠ 0 → SCi s (fun k => cs (oc k)) N := fun c => (hB c).2.2.2
  exact pcI_and9 (T_common L ys d s h l1 l1r) (pcI_q9 (c_common9 L ys d s h.1 l1 l1r (fun z s' => (s.1 0 3 ≠ 0 → SCi s' (fun k => cs (oc k)) N) ∧ coQ (s.1 0 3 ≠ 0) l1 N (cmC s At.length n M oc) z) (common9_v (fun c => ⟨(hB c).1.2.1, (hB c).2.1⟩) (fun v hv => ⟨hS, hv⟩))))
theorem Vr_common {s : im_S} (hr : rd s) {At : ats} {N : Nat} {nb : Nat} {b : Nat → List Int} {T : Nat → Nat → Nat} {f : Nat → Int} {F : Nat → List Int} {lo hi : Nat → Rat} {ds : Nat → Rat → Int} {od : Nat → Nat} {tb : Nat → Nat → Int} {hd : Nat → Int} (hR : wgf s 5 ≠ 0 → RBd s At N nb b T f F lo hi ds od tb hd) {l1 : Int} : W_common l1 s (fun z s' => wgf s' 1 = wgf s 1 ∧ rd s' ∧ rfq s s' ∧ (wgf s 5 ≠ 0 → RBd s' At N nb b T f F lo hi ds od tb hd) ∧ coQ (wgf s 5 ≠ 0) l1 N (cmR s At.length nb b T od) z) := by
  have fin : ∀ {z : Int}, coQ (wgf s 5 ≠ 0) l1 N (cmR s At.length nb b T od) z → wgf s 1 = wgf s 1 ∧ rd s ∧ rfq s s ∧ (wgf s 5 ≠ 0 → RBd s At N nb b T f F lo hi ds od tb hd) ∧ coQ (wgf s 5 ≠ 0) l1 N (cmR s At.length nb b T od) z := fun hz => ⟨rfl, hr, rfq_rfl, hR, hz⟩
  exact common_rv (fun c => (hR c).2.1) (fun c => ⟨(hR c).1.1, (hR c).1.2.1⟩) (fun v hv => fin hv)
theorem Ve_common {s s1 : im_S} {At : ats} {N n : Nat} {p : Nat → List Int} {M : Nat → Nat → Nat} {cs : Nat → Rat → Int} {oc : Nat → Nat} {tb : Nat → Nat → Int} {hd : Nat → Int} {nb : Nat} {b : Nat → List Int} {T : Nat → Nat → Nat} {f : Nat → Int} {F : Nat → List Int} {lo hi : Nat → Rat} {ds : Nat → Rat → Int} {od : Nat → Nat} (hk : s.1 0 3 ≠ 0 ↔ wgf s 5 ≠ 0) (hB : s.1 0 3 ≠ 0 → CB s At N n p M cs oc tb hd) (hR : wgf s 5 ≠ 0 → RBd s At N nb b T f F lo hi ds od tb hd) (r : rsm s s1) (e1 : s.1 0 1 = wgf s 2) (e2 : s.1 0 2 = wgf s 3) (e0 : s.1 0 0 = wgf s 1) {l1 : Int} {z z' : Int} (h : coQ (s.1 0 3 ≠ 0) l1 N (cmC s At.length n M oc) z) (h' : coQ (wgf s1 5 ≠ 0) l1 N (cmR s1 At.length nb b T od) z') : z = z' := by
  have k5 : wgf s1 5 = wgf s 5 := rsm_f r 5
  have hK : (wgf s1 5 ≠ 0) = (s.1 0 3 ≠ 0) := by rw [k5]; exact (propext hk).symm
  rw [hK] at h'
  have hR1 : s.1 0 3 ≠ 0 → RBd s1 At N nb b T f F lo hi ds od tb hd := fun c => RBd_rs (hR (hk.1 c)) r
  rcases h with ⟨a, x⟩ | ⟨a, x⟩ <;> rcases h' with ⟨a', x'⟩ | ⟨a', x'⟩
  · omega
  · exfalso; rcases a with q | q | q <;> first | exact q a'.1 | omega
  · exfalso; rcases a' with q | q | q <;> first | exact q a.1 | omega
  · rw [x, x', LINK_cm (hB a.1).2.1 (hR1 a.1).2.1 (show l1.toNat < N by omega)]
theorem Vc_simple (L : Nat) (ys : Nat → Int32) (d : Nat) (s : im_S) (h : KP s) {At : ats} {N n : Nat} {p : Nat → List Int} {M : Nat → Nat → Nat} {cs : Nat → Rat → Int} {oc : Nat → Nat} {tb : Nat → Nat → Int} {hd : Nat → Int} (hB : s.1 0 3 ≠ 0 → CB s At N n p M cs oc tb hd) (l1 : Int) (l1r : iR l1) (l2 : Int) (l2r : iR l2) : pcI L ys 1 d 224 [(2, ((0 : Nat) : Int)), (0, l1), (0, l2)] s (fun z s' => KT s s' ∧ (s.1 0 3 ≠ 0 → SCi s' (fun k => cs (oc k)) N) ∧ siQ (s.1 0 3 ≠ 0) l1 l2 (fun k => cs (oc k)) N z) := by
  have hS : s.1 0 3 ≠ 0 → SCi s (fun k => cs (oc k)) N := fun c => (hB c).2.2.2
  exact pcI_and9 (T_simple L ys d s h l1 l1r l2 l2r) (pcI_q9 (c_simple9 L ys d s h.1 l1 l1r l2 l2r (fun z s' => (s.1 0 3 ≠ 0 → SCi s' (fun k => cs (oc k)) N) ∧ siQ (s.1 0 3 ≠ 0) l1 l2 (fun k => cs (oc k)) N z) (simple9_v (fun c => ⟨(hB c).2.1, (hB c).2.2.2⟩) (fun v s' qw sc hv => ⟨sc, hv⟩))))
theorem Vr_simple {s : im_S} (hr : rd s) {At : ats} {N : Nat} {nb : Nat} {b : Nat → List Int} {T : Nat → Nat → Nat} {f : Nat → Int} {F : Nat → List Int} {lo hi : Nat → Rat} {ds : Nat → Rat → Int} {od : Nat → Nat} {tb : Nat → Nat → Int} {hd : Nat → Int} (hR : wgf s 5 ≠ 0 → RBd s At N nb b T f F lo hi ds od tb hd) {l1 : Int} {l2 : Int} : W_simple l1 l2 s (fun z s' => wgf s' 1 = wgf s 1 ∧ rd s' ∧ rfq s s' ∧ (wgf s 5 ≠ 0 → RBd s' At N nb b T f F lo hi ds od tb hd) ∧ siQ (wgf s 5 ≠ 0) l1 l2 (fun k => ds (od k)) N z) := by
  have fin : ∀ (z : Int) (s' : im_S), rfq s s' → (wgf s 5 ≠ 0 → RVl s' (Fa At) At.length N nb b T f F lo hi ds od) → siQ (wgf s 5 ≠ 0) l1 l2 (fun k => ds (od k)) N z → wgf s' 1 = wgf s 1 ∧ rd s' ∧ rfq s s' ∧ (wgf s 5 ≠ 0 → RBd s' At N nb b T f F lo hi ds od tb hd) ∧ siQ (wgf s 5 ≠ 0) l1 l2 (fun k => ds (od k)) N z := fun z s' q v hz => ⟨rfq_f q 1 (by decide), by
    by_cases c : wgf s 5 = 0
    · exact Or.inl ((rfq_f q 5 (by decide)).trans c)
    · exact Or.inr ⟨N, nb, f, F, lo, hi, (v c).1⟩, q, fun c => RBd_q (hR c) q (v c), hz⟩
  exact simple_rv (fun c => (hR c).2.1) (fun v s' q v' hv => fin v s' q v' hv)
theorem Ve_simple {s s1 : im_S} {At : ats} {N n : Nat} {p : Nat → List Int} {M : Nat → Nat → Nat} {cs : Nat → Rat → Int} {oc : Nat → Nat} {tb : Nat → Nat → Int} {hd : Nat → Int} {nb : Nat} {b : Nat → List Int} {T : Nat → Nat → Nat} {f : Nat → Int} {F : Nat → List Int} {lo hi : Nat → Rat} {ds : Nat → Rat → Int} {od : Nat → Nat} (hk : s.1 0 3 ≠ 0 ↔ wgf s 5 ≠ 0) (hB : s.1 0 3 ≠ 0 → CB s At N n p M cs oc tb hd) (hR : wgf s 5 ≠ 0 → RBd s At N nb b T f F lo hi ds od tb hd) (r : rsm s s1) (e1 : s.1 0 1 = wgf s 2) (e2 : s.1 0 2 = wgf s 3) (e0 : s.1 0 0 = wgf s 1) {l1 : Int} {l2 : Int} {z z' : Int} (h : siQ (s.1 0 3 ≠ 0) l1 l2 (fun k => cs (oc k)) N z) (h' : siQ (wgf s1 5 ≠ 0) l1 l2 (fun k => ds (od k)) N z') : z = z' := by
  have k5 : wgf s1 5 = wgf s 5 := rsm_f r 5
  have hK : (wgf s1 5 ≠ 0) = (s.1 0 3 ≠ 0) := by rw [k5]; exact (propext hk).symm
  rw [hK] at h'
  have hR1 : s.1 0 3 ≠ 0 → RBd s1 At N nb b T f F lo hi ds od tb hd := fun c => RBd_rs (hR (hk.1 c)) r
  have he : s.1 0 3 ≠ 0 → ∀ k, k < N → ds (od k) = cs (oc k) := fun c k hk => ((LINK (hB c).2.1 (hR1 c).2.1).2 k hk).symm
  have hcut : s.1 0 3 ≠ 0 → ∀ k, k < N → cut (cs (oc k)) := fun c k hk => (CV_at (hB c).2.1 hk).2.2.1
  by_cases c : s.1 0 3 = 0
  · rcases h with ⟨_, a⟩ | ⟨a, _⟩
    · rcases h' with ⟨_, a'⟩ | ⟨a', _⟩
      · omega
      · exact absurd c a'.1
    · exact absurd c a.1
  · exact siQ_u (hcut c) h (siQ_c (he c) h')
theorem Vc_cellOf (L : Nat) (ys : Nat → Int32) (d : Nat) (s : im_S) (h : KP s) {At : ats} {N n : Nat} {p : Nat → List Int} {M : Nat → Nat → Nat} {cs : Nat → Rat → Int} {oc : Nat → Nat} {tb : Nat → Nat → Int} {hd : Nat → Int} (hB : s.1 0 3 ≠ 0 → CB s At N n p M cs oc tb hd) (l1 : Int) (l1r : iR l1) (l2 : Int) (l2r : iR l2) : pcI L ys 0 d 207 [(2, ((0 : Nat) : Int)), (0, l1), (0, l2)] s (fun z s' => KT s s' ∧ (s.1 0 3 ≠ 0 → SCi s' (fun k => cs (oc k)) N) ∧ caQ (s.1 0 3 ≠ 0) l1 l2 (fun k => cs (oc k)) N z) := by
  have hS : s.1 0 3 ≠ 0 → SCi s (fun k => cs (oc k)) N := fun c => (hB c).2.2.2
  exact pcI_and9 (T_cellOf L ys d s h l1 l1r l2 l2r) (pcI_q9 (c_cellOf9 L ys d s h.1 l1 l1r l2 l2r (fun z s' => (s.1 0 3 ≠ 0 → SCi s' (fun k => cs (oc k)) N) ∧ caQ (s.1 0 3 ≠ 0) l1 l2 (fun k => cs (oc k)) N z) (cellOf9_v (fun c => (hB c).2.1) (fun v s' wk hv => ⟨fun c => SCi_r (hS c) (wk.2 580 (by omega)) (wk.2 581 (by omega)), hv⟩))))
theorem Vr_cellOf {s : im_S} (hr : rd s) {At : ats} {N : Nat} {nb : Nat} {b : Nat → List Int} {T : Nat → Nat → Nat} {f : Nat → Int} {F : Nat → List Int} {lo hi : Nat → Rat} {ds : Nat → Rat → Int} {od : Nat → Nat} {tb : Nat → Nat → Int} {hd : Nat → Int} (hR : wgf s 5 ≠ 0 → RBd s At N nb b T f F lo hi ds od tb hd) {l1 : Int} {l2 : Int} : W_cellOf l1 l2 s (fun z s' => wgf s' 1 = wgf s 1 ∧ rd s' ∧ rfq s s' ∧ (wgf s 5 ≠ 0 → RBd s' At N nb b T f F lo hi ds od tb hd) ∧ caQ (wgf s 5 ≠ 0) l1 l2 (fun k => ds (od k)) N z) := by
  have fin : ∀ (z : Int) (s' : im_S), rfq s s' → (wgf s 5 ≠ 0 → RVl s' (Fa At) At.length N nb b T f F lo hi ds od) → caQ (wgf s 5 ≠ 0) l1 l2 (fun k => ds (od k)) N z → wgf s' 1 = wgf s 1 ∧ rd s' ∧ rfq s s' ∧ (wgf s 5 ≠ 0 → RBd s' At N nb b T f F lo hi ds od tb hd) ∧ caQ (wgf s 5 ≠ 0) l1 l2 (fun k => ds (od k)) N z := fun z s' q v hz => ⟨rfq_f q 1 (by decide), by
    by_cases c : wgf s 5 = 0
    · exact Or.inl ((rfq_f q 5 (by decide)).trans c)
    · exact Or.inr ⟨N, nb, f, F, lo, hi, (v c).1⟩, q, fun c => RBd_q (hR c) q (v c), hz⟩
  exact cellOf_rv (fun c => (hR c).2.1) (fun v s' q v' hv => fin v s' q v' hv)
theorem Ve_cellOf {s s1 : im_S} {At : ats} {N n : Nat} {p : Nat → List Int} {M : Nat → Nat → Nat} {cs : Nat → Rat → Int} {oc : Nat → Nat} {tb : Nat → Nat → Int} {hd : Nat → Int} {nb : Nat} {b : Nat → List Int} {T : Nat → Nat → Nat} {f : Nat → Int} {F : Nat → List Int} {lo hi : Nat → Rat} {ds : Nat → Rat → Int} {od : Nat → Nat} (hk : s.1 0 3 ≠ 0 ↔ wgf s 5 ≠ 0) (hB : s.1 0 3 ≠ 0 → CB s At N n p M cs oc tb hd) (hR : wgf s 5 ≠ 0 → RBd s At N nb b T f F lo hi ds od tb hd) (r : rsm s s1) (e1 : s.1 0 1 = wgf s 2) (e2 : s.1 0 2 = wgf s 3) (e0 : s.1 0 0 = wgf s 1) {l1 : Int} {l2 : Int} {z z' : Int} (h : caQ (s.1 0 3 ≠ 0) l1 l2 (fun k => cs (oc k)) N z) (h' : caQ (wgf s1 5 ≠ 0) l1 l2 (fun k => ds (od k)) N z') : z = z' := by
  have k5 : wgf s1 5 = wgf s 5 := rsm_f r 5
  have hK : (wgf s1 5 ≠ 0) = (s.1 0 3 ≠ 0) := by rw [k5]; exact (propext hk).symm
  rw [hK] at h'
  have hR1 : s.1 0 3 ≠ 0 → RBd s1 At N nb b T f F lo hi ds od tb hd := fun c => RBd_rs (hR (hk.1 c)) r
  have he : s.1 0 3 ≠ 0 → ∀ k, k < N → ds (od k) = cs (oc k) := fun c k hk => ((LINK (hB c).2.1 (hR1 c).2.1).2 k hk).symm
  have hcut : s.1 0 3 ≠ 0 → ∀ k, k < N → cut (cs (oc k)) := fun c k hk => (CV_at (hB c).2.1 hk).2.2.1
  by_cases c : s.1 0 3 = 0
  · rcases h with ⟨_, a⟩ | ⟨a, _⟩
    · rcases h' with ⟨_, a'⟩ | ⟨a', _⟩
      · omega
      · exact absurd c a'.1
    · exact absurd c a.1
  · exact caQ_u9 (hcut c) (hB c).2.1.2.2.2.2.1 h (caQ_c (he c) h')
theorem Vc_signAt (L : Nat) (ys : Nat → Int32) (d : Nat) (s : im_S) (h : KP s) {At : ats} {N n : Nat} {p : Nat → List Int} {M : Nat → Nat → Nat} {cs : Nat → Rat → Int} {oc : Nat → Nat} {tb : Nat → Nat → Int} {hd : Nat → Int} (hB : s.1 0 3 ≠ 0 → CB s At N n p M cs oc tb hd) (l1 : Int) (l1r : iR l1) (l2 : Int) (l2r : iR l2) (l3 : Int) (l3r : iR l3) : pcI L ys 0 d 223 [(2, ((0 : Nat) : Int)), (0, l1), (0, l2), (0, l3)] s (fun z s' => KT s s' ∧ (s.1 0 3 ≠ 0 → SCi s' (fun k => cs (oc k)) N) ∧ sgV s At l1 l2 l3 z) := by
  have hS : s.1 0 3 ≠ 0 → SCi s (fun k => cs (oc k)) N := fun c => (hB c).2.2.2
  exact pcI_and9 (T_signAt L ys d s h l1 l1r l2 l2r l3 l3r) (pcI_q9 (c_signAt9 L ys d s h.1 l1 l1r l2 l2r l3 l3r (fun z s' => (s.1 0 3 ≠ 0 → SCi s' (fun k => cs (oc k)) N) ∧ sgV s At l1 l2 l3 z) (signAt_w9 (A := At) (KP_1 h) (by by_cases c : s.1 0 3 = 0; exact Or.inl c; exact Or.inr (hB c).1) (fun v s' wk hv => ⟨fun c => SCi_r (hS c) (wk.2 580 (by omega)) (wk.2 581 (by omega)), hv⟩))))
theorem Vr_signAt {s : im_S} (hr : rd s) {At : ats} {N : Nat} {nb : Nat} {b : Nat → List Int} {T : Nat → Nat → Nat} {f : Nat → Int} {F : Nat → List Int} {lo hi : Nat → Rat} {ds : Nat → Rat → Int} {od : Nat → Nat} {tb : Nat → Nat → Int} {hd : Nat → Int} (hR : wgf s 5 ≠ 0 → RBd s At N nb b T f F lo hi ds od tb hd) {l1 : Int} {l2 : Int} {l3 : Int} : W_signAt l1 l2 l3 s (fun z s' => wgf s' 1 = wgf s 1 ∧ rd s' ∧ rfq s s' ∧ (wgf s 5 ≠ 0 → RBd s' At N nb b T f F lo hi ds od tb hd) ∧ sgQ (wgf s 5) (wgf s 6) l1 l2 l3 (rpo s l1) z) := by
  refine signAt_qz (n := N) (nb := nb) (f := f) (F := F) (lo := lo) (hi := hi) (fun c => (hR c).2.1.1) (fun z s' q v hz => ⟨rfq_f q 1 (by decide), ?_, q, fun c => RBd_q (hR c) q (RVl_co (hR c).2.1 (v c) (fun c' i hc => rfq_row q c' i (by omega) (by omega))), hz⟩)
  by_cases c : wgf s 5 = 0
  · exact Or.inl ((rfq_f q 5 (by decide)).trans c)
  · exact Or.inr ⟨N, nb, f, F, lo, hi, v c⟩
theorem Ve_signAt {s s1 : im_S} {At : ats} {N n : Nat} {p : Nat → List Int} {M : Nat → Nat → Nat} {cs : Nat → Rat → Int} {oc : Nat → Nat} {tb : Nat → Nat → Int} {hd : Nat → Int} {nb : Nat} {b : Nat → List Int} {T : Nat → Nat → Nat} {f : Nat → Int} {F : Nat → List Int} {lo hi : Nat → Rat} {ds : Nat → Rat → Int} {od : Nat → Nat} (hk : s.1 0 3 ≠ 0 ↔ wgf s 5 ≠ 0) (hB : s.1 0 3 ≠ 0 → CB s At N n p M cs oc tb hd) (hR : wgf s 5 ≠ 0 → RBd s At N nb b T f F lo hi ds od tb hd) (r : rsm s s1) (e1 : s.1 0 1 = wgf s 2) (e2 : s.1 0 2 = wgf s 3) (e0 : s.1 0 0 = wgf s 1) {l1 : Int} {l2 : Int} {l3 : Int} {z z' : Int} (h : sgV s At l1 l2 l3 z) (h' : sgQ (wgf s1 5) (wgf s1 6) l1 l2 l3 (rpo s1 l1) z') : z = z' := by
  refine sg_same (A := At) ?_ r h h'
  by_cases c : s.1 0 3 = 0
  · exact Or.inl ⟨c, Classical.byContradiction fun z => (hk.2 z) c⟩
  · exact Or.inr ⟨c, hk.1 c, (hB c).1, (hR (hk.1 c)).1⟩
