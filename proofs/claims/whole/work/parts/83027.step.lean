/-! ONE FRACTION MORE IS SPLIT OFF: what stays true of the pieces and of the other roots -/
def SPR (n e : Nat) (p : Nat → List Int) (M : Nat → Nat → Nat) (n3 : Nat) (p3 : Nat → List Int) (M3 : Nat → Nat → Nat) : Prop := n ≤ n3 ∧ (∀ e', e' < n → e' ≠ e → p3 e' = p e') ∧ (∀ o i, o < n3 → M3 o i = if o < n then M o i else M e i) ∧ (∀ (i : Nat) (x : Rat), PRd p3 (fun o => M3 o i) x n3 = PRd p (fun o => M o i) x n) ∧ ∀ c : Rat → Int, cut c → rtc (p3 e) c → rtc (p e) c
theorem SPR_0 (n e : Nat) (p : Nat → List Int) (M : Nat → Nat → Nat) : SPR n e p M n p M := ⟨Nat.le_refl _, fun _ _ _ => rfl, fun o i h => by rw [if_pos h], fun _ _ => rfl, fun _ _ h => h⟩
/-- root k is a fraction, with its piece -/
def rtF (s : im_S) (j e n n3 : Nat) (p3 : Nat → List Int) (c0 : Rat → Int) : Prop := ∃ (o : Nat) (a q : Int), o < n3 ∧ (o = e ∨ n ≤ o) ∧ rF s j o a q ∧ c0 ((a : Rat) / q) = 0 ∧ pev (p3 o) ((a : Rat) / q) = 0 ∧ (o = e → pdb (p3 e) 2)
def NEWO (s : im_S) (from9 m n n3 : Nat) (p3 : Nat → List Int) : Prop := ∀ o, n ≤ o → o < n3 → ∃ (k : Nat) (a q : Int), k < m ∧ rF s (from9 + k) o a q ∧ p3 o = lnr a q
theorem rF_co {F : Nat → Nat → Prop} {R : Nat → Prop} {s s' : im_S} {j o : Nat} {a q : Int} (h : rF s j o a q) (f : gfr F R s s') (h1 : ∀ k, k < 6 → ¬ F (311 + 3 * j) k) : rF s' j o a q := by
  obtain ⟨a1, a2, a3, a4, a5, a6, r⟩ := h
  exact ⟨by rw [f.1 _ _ (h1 1 (by omega))]; exact a1, by rw [f.1 _ _ (h1 2 (by omega))]; exact a2, by rw [f.1 _ _ (h1 3 (by omega))]; exact a3, by rw [f.1 _ _ (h1 4 (by omega))]; exact a4, by rw [f.1 _ _ (h1 5 (by omega))]; exact a5, by rw [f.1 _ _ (h1 0 (by omega))]; exact a6, r⟩
theorem rtF_co {F : Nat → Nat → Prop} {R : Nat → Prop} {s s' : im_S} {j e n n3 : Nat} {p3 : Nat → List Int} {c0 : Rat → Int} (h : rtF s j e n n3 p3 c0) (f : gfr F R s s') (h1 : ∀ k, k < 6 → ¬ F (311 + 3 * j) k) : rtF s' j e n n3 p3 c0 := by
  obtain ⟨o, a, q, b1, b2, b3, r⟩ := h
  exact ⟨o, a, q, b1, b2, rF_co b3 f h1, r⟩
theorem rU_co {F : Nat → Nat → Prop} {R : Nat → Prop} {s s' : im_S} {j : Nat} {P : List Int} {c0 : Rat → Int} {l r : Rat} (h : rU s j P c0 l r) (f : gfr F R s s') (h1 : ∀ k, ¬ F (311 + 3 * j) k) (h2 : ∀ k, ¬ F (311 + 3 * j + 1) k) (h3 : ¬ R (311 + 3 * j + 1 + 1)) : rU s' j P c0 l r := by
  obtain ⟨⟨c, b, a1, a2⟩, a3, r9⟩ := h
  exact ⟨⟨c, b, rt0_co a1 f h1 h2 h3, a2⟩, by rw [f.1 _ _ (h1 1)]; exact a3, r9⟩
theorem rN_co {F : Nat → Nat → Prop} {R : Nat → Prop} {s s' : im_S} {j e : Nat} {P : List Int} {c0 : Rat → Int} (h : rN s j e P c0) (f : gfr F R s s') (h1 : ∀ k, k < 9 → ¬ F (311 + 3 * j) k) (h2 : ∀ k, ¬ F (311 + 3 * j + 1) k) (h3 : ¬ R (311 + 3 * j + 1 + 1)) : rN s' j e P c0 := by
  obtain ⟨a1, a2, a3, a4, ⟨c, b, t, b1, b2⟩, K, ⟨k1, k2, k3, k4⟩, k5⟩ := h
  exact ⟨by rw [f.1 _ _ (h1 1 (by omega))]; exact a1, by rw [f.1 _ _ (h1 0 (by omega))]; exact a2, by rw [f.1 _ _ (h1 8 (by omega))]; exact a3, a4, ⟨c, b, t, rst_co b1 f (h1 7 (by omega)) (h2 1) (h2 2) h3, b2⟩, K, ⟨k1, k2, by rw [f.1 _ _ (h1 4 (by omega))]; exact k3, by rw [f.1 _ _ (h1 5 (by omega))]; exact k4⟩, k5⟩
theorem out_iv {P : List Int} {l r : Rat} {t a q : Int} (q0 : 0 < q) (is : iso P l r t) {c0 : Rat → Int} (cc : cut c0) (ct : rtc P c0) (cl : c0 l = 1) (cr : c0 r = -1) (hz : pev P ((a : Rat) / q) = 0) (hn : c0 ((a : Rat) / q) ≠ 0) : (a : Rat) / q ≤ l ∨ r ≤ (a : Rat) / q := by
  by_cases c1 : (a : Rat) / q ≤ l
  · exact Or.inl c1
  · by_cases c2 : r ≤ (a : Rat) / q
    · exact Or.inr c2
    · exfalso
      refine hn ?_
      rw [iso_c is cc ct cl cr (by grind) (by grind), hz, show rsg 0 = 0 by decide, Int.mul_zero]
theorem lin_zero {P K : List Int} {a q : Int} (q0 : 0 < q) (e : ∀ x : Rat, pev P x = (q * x - a) * pev K x) : pev P ((a : Rat) / q) = 0 := by
  have qr : (0 : Rat) < q := Rat.intCast_pos.2 q0
  have qx : (q : Rat) * ((a : Rat) / q) = a := by
    have := Rat.div_mul_cancel (a := (a : Rat)) (b := (q : Rat)) (by grind)
    grind
  rw [e, qx]
  grind
theorem rU_lin {s : im_S} {j : Nat} {P K : List Int} {c0 : Rat → Int} {l r : Rat} {a q : Int} (q0 : 0 < q) (e : ∀ x : Rat, pev P x = (q * x - a) * pev K x) (nK : nzp K) (hn : c0 ((a : Rat) / q) ≠ 0) (h : rU s j P c0 l r) : rU s j K c0 l r := by
  obtain ⟨a1, a2, ⟨t, is⟩, cc, ct, cl, cr⟩ := h
  exact ⟨a1, a2, iso_lin q0 e (out_iv q0 is cc ct cl cr (lin_zero q0 e) hn) is, cc, rtc_lin q0 e nK cc hn ct, cl, cr⟩
theorem rN_lin {s : im_S} {j e9 : Nat} {P K : List Int} {c0 : Rat → Int} {a q : Int} (q0 : 0 < q) (e : ∀ x : Rat, pev P x = (q * x - a) * pev K x) (nK : nzp K) (h : rN s j e9 P c0) : rN s j e9 K c0 := by
  obtain ⟨a1, a2, a3, ⟨cc, ct, cn⟩, ⟨c, b, t, b1, b2, b3, is, cl, cr⟩, r⟩ := h
  obtain ⟨t', is'⟩ := iso_lin q0 e (out_iv q0 is cc ct cl cr (lin_zero q0 e) (cn _)) is
  exact ⟨a1, a2, a3, ⟨cc, rtc_lin q0 e nK cc (cn _) ct, cn⟩, ⟨c, b, t', b1, b2, b3, is', cl, cr⟩, r⟩
theorem rU_eq {s : im_S} {j : Nat} {P K : List Int} {c0 : Rat → Int} {l r : Rat} (e : ∀ x : Rat, pev P x = pev K x) (h : rU s j P c0 l r) : rU s j K c0 l r := by
  obtain ⟨a1, a2, ⟨t, t1, t2, t3, t4, t5⟩, cc, ct, cl, cr⟩ := h
  exact ⟨a1, a2, ⟨t, t1, t2, by rw [← e]; exact t3, by rw [← e]; exact t4, fun x y u v w z => by rw [← e]; exact t5 x y u v w (by rw [e]; exact z)⟩, cc, rtc_eq e ct, cl, cr⟩
theorem nzp_K {P G K : List Int} (h : nzp P) (e : ∀ x : Rat, pev P x = pev G x * pev K x) : nzp K := (ne_of_mul e h).2
/-- two numbers that are both 0 at a fraction are the same -/
theorem cut_same {c c' : Rat → Int} (h : cut c) (h' : cut c') {x : Rat} (z : c x = 0) (z' : c' x = 0) : c = c' := funext fun y => by rw [cut_q h z, cut_q h' z']
theorem spl_step {n e n3 n4 m : Nat} {p p3 p4 : Nat → List Int} {M M3 M4 : Nat → Nat → Nat} {a q : Int} {o : Nat} (q0 : 0 < q) (he : e < n) (h : SPR n e p M n3 p3 M3) (hs : splR n3 e p3 M3 a q n4 p4 M4 o) (hco : ∀ e1 e2, e1 < n4 → e2 < n4 → e1 ≠ e2 → cop (p4 e1) (p4 e2)) (nz : nzp (p3 e)) : SPR n e p M n4 p4 M4 ∧ o < n4 ∧ (o = e ∨ n ≤ o) ∧ pev (p4 o) ((a : Rat) / q) = 0 ∧ (o = e → pdb (p4 e) 2) ∧ n3 ≤ n4 ∧ (∀ o', n3 ≤ o' → o' < n4 → o' = o ∧ p4 o = lnr a q) ∧ (∀ o', o' < n3 → o' ≠ e → p4 o' = p3 o') ∧ (p4 e = p3 e ∨ (¬ pdb (p3 e) 2 ∧ ∀ x : Rat, pev (p3 e) x = (q * x - a) * pev (p4 e) x)) := by
  obtain ⟨h1, h2, h3, h4, h5⟩ := h
  rcases hs with ⟨e1, e2, K, eK, e3, e4, e5⟩ | ⟨e1, e2, e3, e4, e5, K, eK⟩
  · have pe : p4 e = K := by rw [e3]; dsimp only; rw [if_neg (by omega), if_pos rfl]
    have pn : p4 n3 = lnr a q := by rw [e3]; dsimp only; rw [if_pos rfl]
    have po : ∀ o', o' < n3 → o' ≠ e → p4 o' = p3 o' := fun o' a1 a2 => by rw [e3]; dsimp only; rw [if_neg (by omega), if_neg a2]
    have nK : nzp K := nzp_K (G := lnr a q) nz (fun x => by rw [eK x, lnr_ev])
    have M4e : ∀ o' i, o' < n3 → M4 o' i = M3 o' i := fun o' i a1 => by rw [e4]; dsimp only; rw [if_neg (by omega)]
    have M4n : ∀ i, M4 n3 i = M3 e i := fun i => by rw [e4]; dsimp only; rw [if_pos rfl]
    refine ⟨⟨by omega, fun e' a1 a2 => by rw [po e' (by omega) a2]; exact h2 e' a1 a2, fun o' i ho => ?_, fun i x => ?_, fun c cc ct => ?_⟩, by omega, by omega, ?_, by omega, by omega, fun o' a1 a2 => ⟨by omega, by rw [e2]; exact pn⟩, po, Or.inr ⟨e5, by rw [pe]; exact eK⟩⟩
    · by_cases c1 : o' = n3
      · rw [c1, M4n, h3 e i (by omega), if_pos he, if_neg (by omega)]
      · rw [M4e o' i (by omega)]; exact h3 o' i (by omega)
    · rw [e1, ← h4 i x]
      exact PRd_split (e0 := e) (by omega) (by rw [pn, pe, eK x, lnr_ev]) (M4e e i (by omega)) (M4n i) (fun o' a1 a2 => ⟨by rw [po o' a1 a2], M4e o' i a1⟩)
    · rw [pe] at ct
      refine h5 c cc ?_
      have nl : ¬ rtc (lnr a q) c := fun w => rtc_cop cc (hco n3 e (by omega) (by omega) (by omega)) (by rw [pn]; exact w) (by rw [pe]; exact ct)
      exact (rtc_mul cc (nzp_lin (p := a) q0) nK (fun x => by rw [eK x, lnf_ev])).2 (Or.inr ⟨nl, ct⟩)
    · rw [e2, pn]
      exact lin_zero (K := [1]) q0 (fun x => by rw [lnr_ev]; show _ = _ * (((1 : Int) : Rat) + x * 0); rw [rat_i1]; grind)
  · subst e1
    subst e2
    subst e3
    subst e4
    exact ⟨⟨h1, h2, h3, h4, h5⟩, by omega, Or.inl rfl, lin_zero q0 eK, fun _ => e5, Nat.le_refl _, fun o' a1 a2 => by omega, fun _ _ _ => rfl, Or.inl rfl⟩
