/-! LOAD OF THE CLASS: all that is held behind it -/
def rlA (A : ats) (a : Nat) : Int := match A[a]? with
  | some q => q.2
  | none => 0
theorem T7_rl {s : im_S} {A : ats} (h : tat s A) {a : Nat} (ha : a < A.length) : s.2 81 a = rlA A a := by
  have e : A[a]? = some A[a] := List.getElem?_eq_getElem ha
  have x := (h.2.2 a A[a].1 A[a].2 e).2.2
  unfold rlA
  rw [e]
  exact x
theorem tst_c {t t' : Nat → Bool} : ∀ {m : Nat}, (∀ a, a < m → t a = t' a) → tst t m = tst t' m
  | 0, _ => rfl
  | m + 1, h => by
    have ih := tst_c (t := t) (t' := t') (m := m) (fun a ha => h a (by omega))
    show orI (tst t m) (if t m = true then shlI 1 (m : Int) else 0) = orI (tst t' m) (if t' m = true then shlI 1 (m : Int) else 0)
    rw [ih, h m (by omega)]
theorem ldS_l {d : Int} {P : List Int} (h : dgo d P) : ldS d P = (ldc d P).sign := by
  unfold ldS ldc
  by_cases q : 0 ≤ d
  · rw [if_pos q, if_pos q]
    have := h.2.2.2 q
    by_cases z : pgt P d.toNat ≤ 0
    · rw [if_pos z, Int.sign_eq_neg_one_of_neg (by omega)]
    · rw [if_neg z, Int.sign_eq_one_of_pos (by omega)]
  · rw [if_neg q, if_neg q]; rfl
/-- whether a cell holds -/
def hdZ (A : atz) (N : Nat) (L : Nat → Int) (mu : Nat → Nat → Nat) (c : Nat) : Int := if brn (fun a => decide (sgc (L a) (fun k => mu k a) N c = due (rlA A.1 a))) A.2 (fun _ => false) 0 = true then 1 else 0
/-- signs, what holds, and the sums -/
def FCZ (s : im_S) (m N : Nat) (L : Nat → Int) (mu : Nat → Nat → Nat) (hd : Nat → Int) : Prop := (∀ c a, c ≤ 2 * N → a < m → s.2 578 (10 * c + a) = sgc (L a) (fun k => mu k a) N c) ∧ (∀ c, c ≤ 2 * N → s.2 579 c = hd c) ∧ s.1 1 7 = (hvv hd (2 * N + 1)).1 ∧ s.1 1 8 = (hvv hd (2 * N + 1)).2.1 ∧ s.1 1 9 = (hvv hd (2 * N + 1)).2.2.1 ∧ s.1 1 10 = (hvv hd (2 * N + 1)).2.2.2
/-- what the class holds behind load -/
def CLZ (s : im_S) (A : atz) : Prop := ∃ (N n : Nat) (p : Nat → List Int) (M : Nat → Nat → Nat) (cs : Nat → Rat → Int) (oc : Nat → Nat) (L : Nat → Int), CVl s (Fa A.1) A.1.length N n p M cs oc ∧ (LSG (Fa A.1) L ∧ ∀ a, L a = -1 ∨ L a = 0 ∨ L a = 1) ∧ FCZ s A.1.length N L (fun k a => M (owC s oc k) a) (fun c => hdZ A N L (fun k a => M (owC s oc k) a) c) ∧ SCi s (fun k => cs (oc k)) N
def ldZ (tx : Nat → Int) (n : Nat) (z : Int) (s' : im_S) : Prop := ∃ R, RDz tx n R ∧ z = foz R ∧ s'.1 0 1 = foz R ∧ s'.1 0 2 = plz R ∧ s'.1 0 3 = knz R ∧ s'.1 247 3 ≠ s'.1 247 4 ∧ ∀ j A, R = .inr (j, A) → tat s' A.1 ∧ CLZ s' A
theorem load_z {tx : Nat → Int} {n : Nat} {s : im_S} {Q : Int → im_S → Prop} (hk : kp1 s) (hd : dI s) (hne : s.1 247 3 ≠ s.1 247 4) (hl : s.1 0 0 = (n : Int)) (hn : n ≤ 400) (h3 : gln 3 = 400) (ht : ∀ k, k < n → s.2 3 k = tx k) (hr : ∀ k, k < n → 32 ≤ tx k ∧ tx k ≤ 126) (hQ : ∀ z s', ldZ tx n z s' → Q z s') : C_load9z s Q := by
  intro s1 e1
  have g1 : gfr (fun c k => c = 0) (fun _ => False) s s1 := by subst e1; exact gfr_pf (gfr_refl _ _ _) rfl
  have k1 : kp1 s1 := kp1_co hk g1 (fun c k e => by omega) (fun c e => e.elim) (fun k => by omega) (fun k => by omega) (fun z => z) (fun z => z)
  refine ⟨fun _ s2 => RK s1 s2, fun z s2 => rdZ tx n z s2, read_k k1.1 (fun z s2 h2 => h2), read_z hl hn h3 (by rw [show s1.2 = s.2 by subst e1; rfl]; exact ht) hr (fun z s2 h => h), fun z s2 h2 hv2 => ?_⟩
  intro s3 e3 v ev s4 e4 w ew s5 e5
  obtain ⟨R, hR, zR, pR, tR⟩ := hv2
  have g2 := h2.2.2.2
  have k2 : kp1 s2 := by
    obtain ⟨a, ⟨lo, hi, mi, ot, b⟩, c, d⟩ := k1
    exact ⟨h2.1, ⟨lo, hi, mi, ot, fq_co b g2 (fun k => by omega)⟩, big_co c (g2.1 _ _ (by omega)) (g2.1 _ _ (by omega)) (g2.2 _ (by omega)), big_co d (g2.1 _ _ (by omega)) (g2.1 _ _ (by omega)) (g2.2 _ (by omega))⟩
  have g5 : gfr (fun c k => c = 0) (fun _ => False) s2 s5 := by subst e5; subst e4; subst e3; exact gfr_pf (gfr_pf (gfr_pf (gfr_refl _ _ _) rfl) rfl) rfl
  have k5 : kp1 s5 := kp1_co k2 g5 (fun c k e => by omega) (fun c e => e.elim) (fun k => by omega) (fun k => by omega) (fun z => z) (fun z => z)
  have d5 : dI s5 := dI_co (dI_co (dI_co hd g1 (by omega) (by omega)) g2 (by omega) (by omega)) g5 (by omega) (by omega)
  have a5 : atb s5 := by
    obtain ⟨a1, a2, a3⟩ := h2.2.1
    have e : s5.1 2 11 = s2.1 2 11 := g5.1 _ _ (by omega)
    exact ⟨by omega, by omega, fun i hi => pok_fr (a3 i (by omega)) g5 (by omega) (fun z => z)⟩
  have z3 : cgf s3 0 1 = z := by rw [e3]; exact cpf_same _ _ _ _
  have z4 : cgf s4 0 1 = z := by rw [e4]; exact (cpf_ne (by omega)).trans z3
  have z5 : s5.1 0 1 = foz R := by rw [e5, cpf_ne (by omega)]; exact z4.trans zR
  have p5 : s5.1 0 2 = plz R := by
    rw [e5, cpf_ne (by omega), e4, cpf_same, ev, z3, zR]
    cases R with
    | inl e =>
      have := pR e rfl
      rw [if_pos (show ¬ foz (.inl e) = 0 from this.1)]
      rw [e3]
      exact (cpf_ne (by omega)).trans this.2
    | inr q => rw [if_neg (fun c => c rfl)]; rfl
  have o5 : s5.1 0 3 = knz R := by
    rw [e5, cpf_same, ew, z4, zR]
    cases R with
    | inl e => rw [if_pos (show ¬ foz (.inl e) = 0 from (pR e rfl).1)]; rfl
    | inr q => rw [if_neg (fun c => c rfl)]; rfl
  have t5 : ∀ j A, R = .inr (j, A) → tat s5 A.1 ∧ prg s5 A.2 := fun j A e => ⟨tat_fr (tR j A e).1 g5 (by omega) (fun i hi => by omega) (fun i hi z => z) (fun z => z), prg_fr (tR j A e).2 g5 (by omega) (fun z => z)⟩
  have n5 : s5.1 247 3 ≠ s5.1 247 4 := by
    rw [g5.1 _ _ (by omega), g5.1 _ _ (by omega), g2.1 _ _ (by omega), g2.1 _ _ (by omega), g1.1 _ _ (by omega), g1.1 _ _ (by omega)]
    exact hne
  have fin : ∀ z s', z = s5.1 0 1 → upf s5 s' → s'.1 247 3 ≠ s'.1 247 4 → (∀ j A, R = .inr (j, A) → CLZ s' A) → Q z s' := fun z s' ez u hn hc => hQ _ _ ⟨R, hR, ez.trans z5, (u.1 _ _ (by omega)).trans z5, (u.1 _ _ (by omega)).trans p5, (u.1 _ _ (by omega)).trans o5, hn, fun j A e => ⟨tat_fr (t5 j A e).1 u (by omega) (fun i hi => by omega) (fun i hi => by omega) (by omega), hc j A e⟩⟩
  refine ⟨fun c s6 e6 => ?_, fun c => fin _ _ rfl (gfr_refl _ _ _) n5 (fun j A e => ?_)⟩
  · have g6 : gfr (fun c k => c = 84 ∧ k = 2) (fun _ => False) s5 s6 := by subst e6; exact gfr_pf (gfr_refl _ _ _) ⟨rfl, rfl⟩
    have u6 : upf s5 s6 := gfr_mono g6 (fun c k e => by omega) (fun c e => e.elim)
    have B6 : BI s6 0 ((8 : Int) * ((0 : Nat) : Int)) := ⟨by subst e6; rw [cpf_same]; rfl, by omega, fun e he => by omega, by show (0 : Int) ≤ _; omega, dI_co d5 g6 (by omega) (by omega)⟩
    have k6 : kp1 s6 := kp1_co k5 g6 (fun c k e => by omega) (fun c e => e.elim) (fun k => by omega) (fun k => by omega) (fun z => z) (fun z => z)
    cases R with
    | inl e => exact absurd o5 c
    | inr q =>
      obtain ⟨j, Az⟩ := q
      obtain ⟨A, pi⟩ := Az
      obtain ⟨⟨a1, a2, a3⟩, pr5⟩ := t5 j (A, pi) rfl
      dsimp only at a1 a2 a3 pr5
      obtain ⟨zw, zl⟩ := RDz_ok hR
      dsimp only at zl
      refine body_v (m := A.length) (F := Fa A) B6 a2 (by rw [g6.1 _ _ (by omega)]; exact a1) (fun i hi => ?_) k6 (by rw [g6.1 _ _ (by omega), g6.1 _ _ (by omega)]; exact n5) (fun s7 N n p M cs N80 L7 z7 f7 o7 at7 k7 u7 ne7 zr7 => ?_)
      · obtain ⟨P, w, e⟩ : ∃ P w, A[i]? = some (P, w) := ⟨A[i].1, A[i].2, by rw [List.getElem?_eq_getElem hi]⟩
        obtain ⟨x, y, _⟩ := a3 i P w e
        rw [Fa_at e]
        refine ⟨ply_fr x g6 (by omega) (fun z => z), fun k => ?_⟩
        rw [pmk_gt]
        split
        · have := y k (by assumption); omega
        · decide
      · have u57 : upf s5 s7 := gfr_trans u6 u7
        have V7 := CV_of (A := A) N80 L7 z7 o7 at7 zr7 a2 (gfr_refl (fun c f => c = 1 ∧ 7 ≤ f ∧ f ≤ 10) (fun c => c = 578 ∨ c = 579 ∨ c = 581) s7)
        obtain ⟨oc, hoc⟩ : ∃ oc : Nat → Nat, oc = fun k => (s7.2 577 k).toNat := ⟨_, rfl⟩
        rw [← hoc] at V7
        have T7 : tat s7 A := tat_fr ⟨a1, a2, a3⟩ u57 (by omega) (fun i hi => by omega) (fun i hi => by omega) (by omega)
        have R7 : prg s7 pi := prg_fr pr5 u57 (by omega) (by omega)
        obtain ⟨L, hL, L3⟩ := L_ex (Fa A)
        have m80 : ∀ e i, e < n → i < 10 → s7.2 246 (10 * e + i) = (M e i : Int) ∧ M e i ≤ 6480 := L7.2.1.2.2
        refine fillCells_v (m := A.length) (N := N) (st := pi.length) (P := Fa A) (L := L) (mu := fun k a => M (owC s7 oc k) a) a2 N80 z7 T7.1 (by rw [R7.1]; omega) (by rw [R7.1, Int.toNat_natCast]) (fun a ha => ?_) (fun a ha => ?_) (fun a ha k hk => ?_) (fun s8 F8 g8 => ?_)
        · obtain ⟨P, w, e⟩ : ∃ P w, A[a]? = some (P, w) := ⟨A[a].1, A[a].2, by rw [List.getElem?_eq_getElem ha]⟩
          rw [Fa_at e]
          exact (T7.2.2 a P w e).1
        · obtain ⟨P, w, e⟩ : ∃ P w, A[a]? = some (P, w) := ⟨A[a].1, A[a].2, by rw [List.getElem?_eq_getElem ha]⟩
          have y : ply s7 (61 + 2 * a) (Fa A a) := by rw [Fa_at e]; exact (T7.2.2 a P w e).1
          rw [hL a _ y.2]
          exact ldS_l y.2
        · obtain ⟨o1, o2, _, _⟩ := CV_at V7 hk
          obtain ⟨w1, w2, _⟩ := owC_at V7 hk
          have n80 := L7.1.2.1
          obtain ⟨q1, q2⟩ := m80 (owC s7 oc k) a w1 (by omega)
          exact ⟨oc k, owC s7 oc k, by omega, by omega, o2, w2, q1, by omega⟩
        · have u8 : upf s6 s8 := gfr_trans u7 (gfr_mono g8 (fun c f e => by omega) (fun c e => by omega))
          refine fin _ s8 (by show s8.1 0 1 = _; rw [u8.1 _ _ (by omega), u6.1 _ _ (by omega)]) (gfr_trans u6 u8) (by rw [g8.1 _ _ (by omega), g8.1 _ _ (by omega)]; exact ne7) (fun j' A' e' => ?_)
          cases e'
          have V8 := CV_of (A := A) N80 L7 z7 o7 at7 zr7 a2 g8
          rw [← hoc] at V8
          have ow : ∀ k, owC s8 oc k = owC s7 oc k := fun k => by unfold owC; rw [g8.1 _ _ (by omega)]
          refine ⟨N, n, p, M, cs, oc, L, V8, ⟨hL, L3⟩, ?_, fun k hk => Or.inl (F8.2.1 (2 * k) (by omega)).2⟩
          obtain ⟨x1, x2, x3⟩ := F8
          have hh : (fun c => fulf (s7.2 82) pi.length (tst (fun a => decide (sgc (L a) (fun k => M (owC s7 oc k) a) N c = due (s7.2 81 a))) A.length)) = fun c => hdZ (A, pi) N L (fun k a => M (owC s8 oc k) a) c := by
            funext c
            have e1 : fulf (s7.2 82) pi.length (tst (fun a => decide (sgc (L a) (fun k => M (owC s7 oc k) a) N c = due (s7.2 81 a))) A.length) = fulf (s7.2 82) pi.length (tst (fun a => decide (sgc (L a) (fun k => M (owC s7 oc k) a) N c = due (rlA A a))) A.length) := by
              congr 1
              exact tst_c (fun a ha => by rw [T7_rl T7 ha])
            have e2 := fulf_z (r := s7.2 82) (t := fun a => decide (sgc (L a) (fun k => M (owC s7 oc k) a) N c = due (rlA A a))) (A := (A, pi)) (st := pi.length) zw a2 R7.2 rfl
            rw [e1, e2]
            unfold hdZ
            simp only [ow]
          rw [hh] at x2 x3
          refine ⟨fun c a hc ha => ?_, fun c hc => (x2 c hc).1, x3⟩
          have z := x1 c a hc ha
          simp only [ow]
          exact z
  · subst e
    exact absurd (show (1 : Int) = 0 from o5.symm.trans c) (by decide)
