/-! TWO SYSTEMS OF PIECES OF THE SAME ATOMS -/
theorem psm_nz {A : List Int} {k : Int} (k0 : k ≠ 0) (h : nzp A) : nzp (psm k A) := by
  obtain ⟨j, hj⟩ := h
  exact ⟨j, by rw [psm_gt]; exact Int.mul_ne_zero k0 hj⟩
theorem nz_qd {A H K : List Int} {k : Int} (k0 : k ≠ 0) (h : nzp A) (e : ∀ x : Rat, (k : Rat) * pev A x = pev H x * pev K x) : nzp H ∧ nzp K := ne_of_mul (A := psm k A) (fun x => by rw [psm_ev]; exact e x) (psm_nz k0 h)
theorem rtc_c {k : Int} {c : Rat → Int} (hc : cut c) : ¬ rtc [k] c := fun h => by
  obtain ⟨u, v, a, b, d⟩ := rtc_neg h
  have := d u v Rat.le_refl a Rat.le_refl b
  rw [ev_c, ev_c] at this
  have w := rsg_neg this
  rw [rsg_m] at w
  rcases rsg_3 (k : Rat) with q | q | q <;> rw [q] at w <;> revert w <;> decide
theorem nz_c {k : Int} (k0 : k ≠ 0) : nzp [k] := ⟨0, k0⟩
theorem rtc_sm {A : List Int} {k : Int} {c : Rat → Int} (hc : cut c) (k0 : k ≠ 0) (h : nzp A) : rtc (psm k A) c ↔ rtc A c := by
  have z := rtc_mul (F := [k]) (G := A) (H := psm k A) hc (nz_c k0) h (fun x => by rw [psm_ev, ev_c])
  rw [z]
  refine ⟨fun q => ?_, fun q => Or.inr ⟨rtc_c hc, q⟩⟩
  rcases q with q | q
  · exact absurd q.1 (rtc_c hc)
  · exact q.2
theorem rtc_qd {A H K : List Int} {k : Int} {c : Rat → Int} (hc : cut c) (k0 : k ≠ 0) (h : nzp A) (e : ∀ x : Rat, (k : Rat) * pev A x = pev H x * pev K x) : rtc A c ↔ ((rtc H c ∧ ¬ rtc K c) ∨ (¬ rtc H c ∧ rtc K c)) := by
  obtain ⟨a, b⟩ := nz_qd k0 h e
  rw [← rtc_sm hc k0 h]
  exact rtc_mul hc a b (fun x => by rw [psm_ev]; exact e x)
theorem cop_ml {A B C D : List Int} (h1 : cop A B) (h2 : cop A C) (e : ∀ x : Rat, pev D x = pev B x * pev C x) : cop A D := by
  obtain ⟨c1, u1, v1, n1, e1⟩ := h1
  obtain ⟨c2, u2, v2, n2, e2⟩ := h2
  refine ⟨c1 * c2, padd (psm c2 u1) (pmul (pmul v1 u2) B), pmul v1 v2, Int.mul_ne_zero n1 n2, fun x => ?_⟩
  have a1 := e1 x
  have a2 := e2 x
  rw [Rat.intCast_mul, padd_ev, psm_ev, pmul_ev, pmul_ev, pmul_ev, e x]
  generalize (c1 : Rat) = c1 at *
  generalize (c2 : Rat) = c2 at *
  generalize pev u1 x = u1 at *
  generalize pev v1 x = v1 at *
  generalize pev u2 x = u2 at *
  generalize pev v2 x = v2 at *
  generalize pev A x = A at *
  generalize pev B x = B at *
  generalize pev C x = C at *
  subst a1
  subst a2
  grind
theorem cop_o (A : List Int) : cop A [1] := ⟨1, [], [1], by decide, fun x => by
  rw [pev_c1, rat_i1]
  show (1 : Rat) = 0 * pev A x + 1 * 1
  grind⟩
theorem cop_eq {A B C : List Int} (h : cop A B) (e : ∀ x : Rat, pev C x = pev B x) : cop A C := by
  obtain ⟨c, u, v, c0, h⟩ := h
  exact ⟨c, u, v, c0, fun x => by rw [e x]; exact h x⟩
theorem cop_pw {A B : List Int} (h : cop A B) : ∀ (k : Nat) (L : List Int), (∀ x : Rat, pev L x = pev B x ^ k) → cop A L
  | 0, L, e => cop_eq (cop_o A) (fun x => by rw [e x, pev_c1, Rat.pow_zero])
  | k + 1, L, e => by
    obtain ⟨K, hK⟩ := pw_list B k
    exact cop_ml (cop_pw h k K hK) h (fun x => by rw [e x, hK x, Rat.pow_succ])
theorem cop_PR {A : List Int} {p : Nat → List Int} {m : Nat → Nat} : ∀ (n : Nat) (L : List Int), (∀ e, e < n → 1 ≤ m e → cop A (p e)) → (∀ x : Rat, pev L x = PRd p m x n) → cop A L
  | 0, L, _, e => cop_eq (cop_o A) (fun x => by rw [e x, pev_c1]; rfl)
  | n + 1, L, h, e => by
    obtain ⟨K, hK⟩ := PRd_list p m n
    have a := cop_PR n K (fun e he => h e (by omega)) hK
    by_cases c : 1 ≤ m n
    · obtain ⟨J, hJ⟩ := pw_list (p n) (m n)
      exact cop_ml a (cop_pw (h n (by omega) c) (m n) J hJ) (fun x => by rw [e x, hK x, hJ x]; rfl)
    · refine cop_eq a (fun x => ?_)
      rw [e x, hK x]
      show PRd p m x n * pev (p n) x ^ m n = _
      rw [show m n = 0 by omega, Rat.pow_zero, Rat.mul_one]
theorem cop_qd {A B C : List Int} (h : cop A B) (hd : qd C B) : cop A C := by
  obtain ⟨c, u, v, c0, e⟩ := h
  obtain ⟨k, K, k0, f⟩ := hd
  refine ⟨k * c, psm k u, pmul v K, Int.mul_ne_zero k0 c0, fun x => ?_⟩
  have a := e x
  have b := f x
  rw [Rat.intCast_mul, psm_ev, pmul_ev, a]
  generalize (k : Rat) = k at *
  generalize pev B x = B at *
  generalize pev C x = C at *
  generalize pev K x = K at *
  grind
theorem cop_qd2 {A B C : List Int} (h : cop A B) (hd : qd C A) : cop C B := cop_sym (cop_qd (cop_sym h) hd)
theorem sqf_sm {P : List Int} {k : Int} (k0 : k ≠ 0) (h : sqf P) : sqf (psm k P) := by
  obtain ⟨c, u, v, c0, e⟩ := h
  refine ⟨k * c, u, v, Int.mul_ne_zero k0 c0, fun x => ?_⟩
  rw [Rat.intCast_mul, e x, psm_ev, pdl_sm]
  grind
theorem cop_sqk {P H O : List Int} {k : Int} (k0 : k ≠ 0) (h : sqf P) (e : ∀ x : Rat, (k : Rat) * pev P x = pev H x * pev O x) : cop H O := cop_sq (sqf_sm k0 h) (fun x => by rw [psm_ev]; exact e x)
theorem can_nz {G Z : List Int} (hG : nzp G) (h : ∀ x : Rat, pev Z x * pev G x = 0) (x : Rat) : pev Z x = 0 := by
  obtain ⟨T, lT, eT⟩ := trim G
  have e : ∀ x : Rat, pev T x = pev G x := fun x => pev_eq eT x
  refine pev_can lT ?_ (fun x => by rw [e x]; exact h x) x
  obtain ⟨k, hk⟩ := hG
  cases T with
  | nil => exact absurd (eT k).symm hk
  | cons a t => show 1 ≤ t.length + 1; omega
/-- the greatest common divisor -/
def isg (A B H : List Int) : Prop := nzp H ∧ qd H A ∧ qd H B ∧ ∃ (c : Int) (u v : List Int), c ≠ 0 ∧ ∀ x : Rat, (c : Rat) * pev H x = pev u x * pev A x + pev v x * pev B x
theorem qd_eq {A B C : List Int} (h : qd A B) (e : ∀ x : Rat, pev C x = pev B x) : qd A C := by
  obtain ⟨c, K, c0, h⟩ := h
  exact ⟨c, K, c0, fun x => by rw [e x]; exact h x⟩
theorem gex {A : List Int} (hA : nzp A) (B : List Int) : ∃ H, isg A B H := by
  obtain ⟨A', lA, eA⟩ := trim A
  obtain ⟨B', lB, eB⟩ := trim B
  have fA : ∀ x : Rat, pev A' x = pev A x := fun x => pev_eq eA x
  have fB : ∀ x : Rat, pev B' x = pev B x := fun x => pev_eq eB x
  have A1 : 1 ≤ A'.length := by
    obtain ⟨k, hk⟩ := hA
    cases A' with
    | nil => exact absurd (eA k).symm hk
    | cons a t => show 1 ≤ t.length + 1; omega
  obtain ⟨H, H1, lH, q1, q2, c, u, v, c0, e⟩ := bez B'.length A' B' (Nat.le_refl _) lA lB A1
  refine ⟨H, ⟨H.length - 1, lH _ (by omega)⟩, qd_eq q1 (fun x => (fA x).symm), qd_eq q2 (fun x => (fB x).symm), c, u, v, c0, fun x => ?_⟩
  rw [e x, fA x, fB x]
/-- what is left of both behind their divisor has none -/
theorem isg_cop {A B H U V : List Int} {k l : Int} (h : isg A B H) (e1 : ∀ x : Rat, (k : Rat) * pev A x = pev H x * pev U x) (e2 : ∀ x : Rat, (l : Rat) * pev B x = pev H x * pev V x) (k0 : k ≠ 0) (l0 : l ≠ 0) : cop U V := by
  obtain ⟨nH, _, _, c, u, v, c0, e⟩ := h
  refine ⟨k * l * c, psm l u, psm k v, Int.mul_ne_zero (Int.mul_ne_zero k0 l0) c0, fun x => ?_⟩
  have z := can_nz (G := H) (Z := padd (padd (psm l (pmul u U)) (psm k (pmul v V))) [-(k * l * c)]) nH (fun x => by
    have a1 := e1 x
    have a2 := e2 x
    have a3 := e x
    rw [padd_ev, padd_ev, psm_ev, psm_ev, pmul_ev, pmul_ev, ev_c, Rat.intCast_neg, Rat.intCast_mul, Rat.intCast_mul]
    generalize (k : Rat) = k at *
    generalize (l : Rat) = l at *
    generalize (c : Rat) = c at *
    generalize pev u x = u at *
    generalize pev v x = v at *
    generalize pev A x = A at *
    generalize pev B x = B at *
    generalize pev H x = H at *
    generalize pev U x = U at *
    generalize pev V x = V at *
    have : (l * (u * U) + k * (v * V) + -(k * l * c)) * H = l * u * (H * U) + k * v * (H * V) - k * l * (c * H) := by grind
    rw [this, ← a1, ← a2, a3]
    grind) x
  rw [padd_ev, padd_ev, psm_ev, psm_ev, pmul_ev, pmul_ev, ev_c, Rat.intCast_neg] at z
  rw [psm_ev, psm_ev]
  grind
/-- a divisor that turns at c and has nothing in common with the pieces, if none of them turns there -/
theorem peel {p : Nat → List Int} {c : Rat → Int} {q : List Int} (hc : cut c) (nq : nzp q) (sq : sqf q) (tq : rtc q c) : ∀ n : Nat, (∀ e, e < n → nzp (p e) ∧ sqf (p e)) → (∃ e, e < n ∧ rtc (p e) c) ∨ ∃ r, qd r q ∧ nzp r ∧ rtc r c ∧ ∀ e, e < n → cop r (p e)
  | 0, _ => Or.inr ⟨q, qd_rfl q, nq, tq, fun e he => absurd he (by omega)⟩
  | n + 1, h => by
    rcases peel hc nq sq tq n (fun e he => h e (by omega)) with ⟨e, he, w⟩ | ⟨r, r1, r2, r3, r4⟩
    · exact Or.inl ⟨e, by omega, w⟩
    · obtain ⟨np, sp⟩ := h n (by omega)
      obtain ⟨H, hH⟩ := gex r2 (p n)
      obtain ⟨nH, ⟨k, U, k0, e1⟩, ⟨l, V, l0, e2⟩, _⟩ := id hH
      have sr := sqf_dv r1 sq
      by_cases t : rtc H c
      · refine Or.inl ⟨n, by omega, (rtc_qd hc l0 np e2).2 (Or.inl ⟨t, fun w => rtc_cop hc (cop_sqk l0 sp e2) t w⟩)⟩
      · rcases (rtc_qd hc k0 r2 e1).1 r3 with w | w
        · exact absurd w.1 t
        · have qU : qd U r := ⟨k, H, k0, fun x => by rw [e1 x]; grind⟩
          refine Or.inr ⟨U, qd_trans qU r1, (nz_qd k0 r2 e1).2, w.2, fun e he => ?_⟩
          by_cases en : e = n
          · subst en
            have c1 := isg_cop hH e1 e2 k0 l0
            have c2 := cop_sym (cop_sqk k0 sr e1)
            have c3 : cop U (psm l (p e)) := cop_ml c2 c1 (fun x => by rw [psm_ev]; exact e2 x)
            exact cop_qd c3 ⟨1, [l], by decide, fun x => by rw [rat_i1, psm_ev, ev_c]; grind⟩
          · exact cop_qd2 (r4 e (by omega)) qU
def SYS (A : Nat → List Int) (m n : Nat) (p : Nat → List Int) (M : Nat → Nat → Nat) : Prop := (∀ e, e < n → nzp (p e) ∧ sqf (p e) ∧ ∃ i, i < m ∧ 1 ≤ M e i) ∧ (∀ e e', e < n → e' < n → e ≠ e' → cop (p e) (p e')) ∧ ∀ j, j < m → atQ9 (A j) j p M n
theorem SYS_nz {A : Nat → List Int} {m n i e : Nat} {p : Nat → List Int} {M : Nat → Nat → Nat} (h : SYS A m n p M) (hi : i < m) (he : e < n) (h1 : 1 ≤ M e i) : nzp (A i) := by
  refine Classical.byContradiction fun q => ?_
  have := (h.2.2 i hi).1 (fun k => Classical.byContradiction fun w => q ⟨k, w⟩) e he
  omega
theorem two_eq {A : List Int} {p p' : Nat → List Int} {m m' : Nat → Nat} {n n' : Nat} (h : ∃ c d : Int, c ≠ 0 ∧ d ≠ 0 ∧ ∀ x : Rat, (c : Rat) * pev A x = (d : Rat) * PRd p m x n) (h' : ∃ c d : Int, c ≠ 0 ∧ d ≠ 0 ∧ ∀ x : Rat, (c : Rat) * pev A x = (d : Rat) * PRd p' m' x n') : ∃ a b : Int, a ≠ 0 ∧ b ≠ 0 ∧ ∀ x : Rat, (a : Rat) * PRd p m x n = (b : Rat) * PRd p' m' x n' := by
  obtain ⟨c, d, c0, d0, e⟩ := h
  obtain ⟨c', d', c0', d0', e'⟩ := h'
  refine ⟨c' * d, c * d', Int.mul_ne_zero c0' d0, Int.mul_ne_zero c0 d0', fun x => ?_⟩
  have a := e x
  have b := e' x
  rw [Rat.intCast_mul, Rat.intCast_mul]
  generalize (c : Rat) = c at *
  generalize (d : Rat) = d at *
  generalize (c' : Rat) = c' at *
  generalize (d' : Rat) = d' at *
  generalize PRd p m x n = X at *
  generalize PRd p' m' x n' = Y at *
  rw [Rat.mul_assoc, ← a, Rat.mul_assoc, ← b]
  grind
theorem SYS_ex {A : Nat → List Int} {m n n' e : Nat} {p p' : Nat → List Int} {M M' : Nat → Nat → Nat} {c : Rat → Int} (h : SYS A m n p M) (h' : SYS A m n' p' M') (hc : cut c) (he : e < n) (ht : rtc (p e) c) : ∃ e', e' < n' ∧ rtc (p' e') c := by
  obtain ⟨np, sp, i, im, hi⟩ := h.1 e he
  have nA := SYS_nz h im he hi
  obtain ⟨a, b, a0, b0, ab⟩ := two_eq ((h.2.2 i im).2 nA) ((h'.2.2 i im).2 nA)
  rcases peel (p := p') hc np sp ht n' (fun e he => ⟨(h'.1 e he).1, (h'.1 e he).2.1⟩) with w | ⟨r, r1, r2, r3, r4⟩
  · exact w
  · exfalso
    obtain ⟨K, hK⟩ := PRd_dv (p := p) (m := fun e => M e i) hi he
    obtain ⟨L, hL⟩ := PRd_list p' (fun e => M' e i) n'
    have c1 : cop r L := cop_PR n' L (fun e he _ => r4 e he) hL
    have q1 : qd (p e) L := ⟨b, psm a K, b0, fun x => by
      rw [hL x, ← ab x, hK x, psm_ev]; grind⟩
    have c2 := cop_qd c1 (qd_trans r1 q1)
    exact rtc_cop hc c2 r3 r3
theorem rpw_add (x : Rat) (a : Nat) : ∀ b : Nat, x ^ (a + b) = x ^ a * x ^ b
  | 0 => by rw [Nat.add_zero, Rat.pow_zero, Rat.mul_one]
  | b + 1 => by rw [← Nat.add_assoc, Rat.pow_succ, rpw_add x a b, Rat.pow_succ]; grind
theorem rpw_nz {x : Rat} (h : x ≠ 0) : ∀ n : Nat, x ^ n ≠ 0
  | 0 => by rw [Rat.pow_zero]; decide
  | n + 1 => fun e => by
    rw [Rat.pow_succ] at e
    rcases Rat.mul_eq_zero.1 e with q | q
    · exact rpw_nz h n q
    · exact h q
/-- one piece taken out of a product -/
theorem PRd_out {p : Nat → List Int} {m : Nat → Nat} {x : Rat} {n e0 : Nat} (he : e0 < n) : PRd p (fun e => if e = e0 then 0 else m e) x n * pev (p e0) x ^ m e0 = PRd p m x n := by
  refine PRd_ch (e0 := e0) ?_ he (fun e _ h3 => ⟨rfl, if_neg h3⟩)
  rw [if_pos rfl, Rat.pow_zero, Rat.one_mul]
theorem ipw_nz {k : Int} (h : k ≠ 0) : ∀ n : Nat, k ^ n ≠ 0
  | 0 => by rw [Int.pow_zero]; decide
  | n + 1 => by rw [Int.pow_succ]; exact Int.mul_ne_zero (ipw_nz h n) h
theorem icast_pw (k : Int) : ∀ n : Nat, ((k ^ n : Int) : Rat) = (k : Rat) ^ n
  | 0 => by rw [Int.pow_zero, Rat.pow_zero]; rfl
  | n + 1 => by rw [Int.pow_succ, Rat.pow_succ, Rat.intCast_mul, icast_pw k n]
/-- a common divisor of two pieces counts as often on both sides, or is a number -/
theorem SYS_mu {A : Nat → List Int} {m n n' e e' i : Nat} {p p' : Nat → List Int} {M M' : Nat → Nat → Nat} {g : List Int} (h : SYS A m n p M) (h' : SYS A m n' p' M') (he : e < n) (he' : e' < n') (im : i < m) (ng : nzp g) (h1 : qd g (p e)) (h2 : qd g (p' e')) (hg : ¬ cop g g) : M e i ≤ M' e' i := by
  refine Classical.byContradiction fun lt => hg ?_
  have nA := SYS_nz h im he (by omega)
  obtain ⟨a, b, a0, b0, ab⟩ := two_eq ((h.2.2 i im).2 nA) ((h'.2.2 i im).2 nA)
  obtain ⟨k, U, k0, e1⟩ := h1
  obtain ⟨l, V, l0, e2⟩ := h2
  obtain ⟨r, hr⟩ : ∃ r, M e i = M' e' i + (1 + r) := ⟨M e i - M' e' i - 1, by omega⟩
  obtain ⟨T, hT⟩ : ∃ T, M' e' i = T := ⟨_, rfl⟩
  rw [hT] at hr
  obtain ⟨X, hX⟩ := PRd_list p (fun j => if j = e then 0 else M j i) n
  obtain ⟨Y, hY⟩ := PRd_list p' (fun j => if j = e' then 0 else M' j i) n'
  obtain ⟨U9, hU⟩ := pw_list U (M e i)
  obtain ⟨V9, hV⟩ := pw_list V T
  obtain ⟨G9, hG⟩ := pw_list g r
  obtain ⟨GT, hGT⟩ := pw_list g T
  have c1 : cop g V := cop_sqk l0 (h'.1 e' he').2.1 e2
  have c2 : cop g Y := cop_PR n' Y (fun j hj q => by
    by_cases z : j = e'
    · rw [if_pos z] at q; omega
    · exact cop_qd2 (h'.2.1 e' j he' hj (fun w => z w.symm)) ⟨l, V, l0, e2⟩) hY
  have c3 : cop g (pmul V9 Y) := cop_ml (cop_pw c1 T V9 hV) c2 (fun x => pmul_ev V9 Y x)
  have nGT : nzp GT := by
    refine Classical.byContradiction fun q => ?_
    have z : ∀ k, pgt GT k = 0 := fun k => Classical.byContradiction fun w => q ⟨k, w⟩
    obtain ⟨y, hy⟩ := nzp_ev ng
    have w : pev GT y = 0 := by rw [pev_eq (R := []) (fun k => by rw [z k]; cases k <;> rfl) y]; rfl
    rw [hGT y] at w
    exact rpw_nz hy T w
  refine cop_qd c3 ⟨b * k ^ M e i, psm (a * l ^ T) (pmul (pmul G9 U9) X), Int.mul_ne_zero b0 (ipw_nz k0 _), fun x => ?_⟩
  have z := can_nz (G := GT) (Z := padd (psm (b * k ^ M e i) (pmul V9 Y)) (psm (-(a * l ^ T)) (pmul g (pmul (pmul G9 U9) X)))) nGT (fun x => by
    have o1 := PRd_out (p := p) (m := fun j => M j i) (x := x) he
    have o2 := PRd_out (p := p') (m := fun j => M' j i) (x := x) he'
    have o3 := ab x
    rw [← o1, ← o2] at o3
    have f1 := e1 x
    have f2 := e2 x
    have g1 : (k : Rat) ^ M e i * pev (p e) x ^ M e i = pev g x ^ T * (pev g x * pev g x ^ r) * pev U x ^ M e i := by
      rw [← rmul_pow, f1, rmul_pow]
      congr 1
      rw [hr, rpw_add, rpw_add, show pev g x ^ 1 = pev g x by rw [Rat.pow_succ, Rat.pow_zero, Rat.one_mul]]
    have g2 : (l : Rat) ^ T * pev (p' e') x ^ T = pev g x ^ T * pev V x ^ T := by
      rw [← rmul_pow, f2, rmul_pow]
    rw [padd_ev, psm_ev, psm_ev, pmul_ev, pmul_ev, pmul_ev, pmul_ev, hG x, hGT x, hU x, hV x, hX x, hY x, Rat.intCast_neg, Rat.intCast_mul, Rat.intCast_mul, icast_pw, icast_pw]
    rw [hT] at o3
    generalize PRd p (fun j => if j = e then 0 else M j i) x n = XX at *
    generalize PRd p' (fun j => if j = e' then 0 else M' j i) x n' = YY at *
    generalize (k : Rat) ^ M e i = kk at *
    generalize (l : Rat) ^ T = ll at *
    generalize pev (p e) x ^ M e i = PP at *
    generalize pev (p' e') x ^ T = QQ at *
    generalize pev g x ^ T = gT at *
    generalize pev g x ^ r = gr at *
    generalize pev g x = gg at *
    generalize pev U x ^ M e i = UU at *
    generalize pev V x ^ T = VV at *
    generalize (a : Rat) = a at *
    generalize (b : Rat) = b at *
    have : (b * kk * (VV * YY) + -(a * ll) * (gg * (gr * UU * XX))) * gT = b * kk * YY * (gT * VV) - a * ll * XX * (gT * (gg * gr) * UU) := by grind
    rw [this, ← g1, ← g2]
    have : b * kk * YY * (ll * QQ) - a * ll * XX * (kk * PP) = kk * ll * (b * (YY * QQ) - a * (XX * PP)) := by grind
    rw [this, o3]
    grind) x
  rw [padd_ev, psm_ev, psm_ev, pmul_ev g, Rat.intCast_neg] at z
  rw [psm_ev]
  generalize pev g x = g at *
  generalize pev (pmul V9 Y) x = W at *
  generalize pev (pmul (pmul G9 U9) X) x = Z at *
  grind
/-- at a number where a piece of each turns, they have a common divisor that turns there -/
theorem common_t {P Q : List Int} {c : Rat → Int} (hc : cut c) (nP : nzp P) (nQ : nzp Q) (hP : rtc P c) (hQ : rtc Q c) : ∃ g, isg P Q g ∧ rtc g c := by
  obtain ⟨H, hH⟩ := gex nP Q
  obtain ⟨nH, ⟨k, U, k0, e1⟩, ⟨l, V, l0, e2⟩, _⟩ := id hH
  refine ⟨H, hH, Classical.byContradiction fun t => ?_⟩
  rcases (rtc_qd hc k0 nP e1).1 hP with w | w
  · exact t w.1
  · rcases (rtc_qd hc l0 nQ e2).1 hQ with w' | w'
    · exact t w'.1
    · exact rtc_cop hc (isg_cop hH e1 e2 k0 l0) w.2 w'.2
theorem SYS_eq {A : Nat → List Int} {m n n' e e' i : Nat} {p p' : Nat → List Int} {M M' : Nat → Nat → Nat} {c : Rat → Int} (h : SYS A m n p M) (h' : SYS A m n' p' M') (hc : cut c) (he : e < n) (he' : e' < n') (ht : rtc (p e) c) (ht' : rtc (p' e') c) (im : i < m) : M e i = M' e' i := by
  obtain ⟨g, ⟨ng, q1, q2, _⟩, tg⟩ := common_t hc (h.1 e he).1 (h'.1 e' he').1 ht ht'
  have hg : ¬ cop g g := fun z => rtc_cop hc z tg tg
  exact Nat.le_antisymm (SYS_mu h h' he he' im ng q1 q2 hg) (SYS_mu h' h he' he im ng q2 q1 hg)
