/-! DERIVATIVES, AND THAT F OVER ITS COMMON DIVISOR WITH F' HAS NO DOUBLE ROOTS -/
theorem pdl_gt (P : List Int) (k : Nat) : pgt (pdl P) k = pgt P (k + 1) * ((k : Int) + 1) := by
  unfold pdl
  rw [pmk_gt]
  by_cases c : k < P.length - 1
  · rw [if_pos c]
  · rw [if_neg c, pgt_hi P (k + 1) (by omega), Int.zero_mul]
theorem pdl_co {P Q : List Int} (h : ∀ k, pgt P k = pgt Q k) (x : Rat) : pev (pdl P) x = pev (pdl Q) x := pev_eq (fun k => by rw [pdl_gt, pdl_gt, h]) x
theorem pdl_cons (a : Int) (p : List Int) (x : Rat) : pev (pdl (a :: p)) x = pev p x + x * pev (pdl p) x := by
  have e : pev (pdl (a :: p)) x = pev (padd p (0 :: pdl p)) x := pev_eq (fun k => by
    rw [pdl_gt, padd_gt]
    cases k with
    | zero =>
      show pgt p 0 * ((0 : Nat) + 1 : Int) = pgt p 0 + 0
      omega
    | succ k =>
      show pgt p (k + 1) * (((k + 1 : Nat) : Int) + 1) = pgt p (k + 1) + pgt (pdl p) k
      rw [pdl_gt, show ((k + 1 : Nat) : Int) = (k : Int) + 1 by omega]
      grind) x
  rw [e, padd_ev]
  show pev p x + (((0 : Int) : Rat) + x * pev (pdl p) x) = _
  rw [rat_i0]; grind
theorem pdl_add (P Q : List Int) (x : Rat) : pev (pdl (padd P Q)) x = pev (pdl P) x + pev (pdl Q) x := by
  rw [← padd_ev]
  exact pev_eq (fun k => by rw [pdl_gt, padd_gt, padd_gt, pdl_gt, pdl_gt]; grind) x
theorem pdl_sm (c : Int) (P : List Int) (x : Rat) : pev (pdl (psm c P)) x = c * pev (pdl P) x := by
  rw [← psm_ev]
  exact pev_eq (fun k => by rw [pdl_gt, psm_gt, psm_gt, pdl_gt]; grind) x
theorem pdl_mul : ∀ (P Q : List Int) (x : Rat), pev (pdl (pmul P Q)) x = pev (pdl P) x * pev Q x + pev P x * pev (pdl Q) x
  | [], Q, x => by
    show (0 : Rat) = 0 * _ + 0 * _
    grind
  | a :: P, Q, x => by
    show pev (pdl (padd (psm a Q) (0 :: pmul P Q))) x = _
    rw [pdl_add, pdl_sm, pdl_cons, pdl_cons, pdl_mul P Q x, pmul_ev]
    show _ = (pev P x + x * pev (pdl P) x) * pev Q x + ((a : Rat) + x * pev P x) * pev (pdl Q) x
    grind
def ppw (P : List Int) : Nat → List Int
  | 0 => [1]
  | k + 1 => pmul (ppw P k) P
theorem ppw_ev (P : List Int) (x : Rat) : ∀ k, pev (ppw P k) x = pev P x ^ k
  | 0 => by rw [show ppw P 0 = [1] from rfl, pev_c1]; grind
  | k + 1 => by
    show pev (pmul (ppw P k) P) x = _
    rw [pmul_ev, ppw_ev P x k, Rat.pow_succ]
theorem ppw_d (P : List Int) (x : Rat) : ∀ k : Nat, pev (pdl (ppw P (k + 1))) x = ((k : Int) + 1 : Int) * pev P x ^ k * pev (pdl P) x
  | 0 => by
    show pev (pdl (pmul [1] P)) x = _
    rw [pdl_mul, pev_c1]
    have e : pev (pdl [1]) x = 0 := rfl
    have e2 : (((0 : Nat) : Int) + 1 : Int) = 1 := rfl
    rw [e, e2, rat_i1]
    grind
  | k + 1 => by
    show pev (pdl (pmul (ppw P (k + 1)) P)) x = _
    rw [pdl_mul, ppw_d P x k, ppw_ev, show ((k + 1 : Nat) : Int) = (k : Int) + 1 by omega, Rat.intCast_add ((k : Int) + 1) 1, rat_i1]
    grind
theorem ppw_len {P : List Int} {n : Nat} (hP : pdb P (n + 1)) (h0 : pgt P n ≠ 0) : ∀ k : Nat, pdb (ppw P k) (k * n + 1) ∧ pgt (ppw P k) (k * n) ≠ 0
  | 0 => by
    rw [Nat.zero_mul]
    exact ⟨pdb_len [1], by show (1 : Int) ≠ 0; decide⟩
  | k + 1 => by
    have ih := ppw_len hP h0 k
    have e : (k + 1) * n = k * n + n := Nat.succ_mul _ _
    rw [e]
    refine ⟨pdb_mono (pdb_mul ih.1 hP) (by omega), ?_⟩
    show pgt (pmul (ppw P k) P) (k * n + n) ≠ 0
    rw [pdb_top ih.1 hP]
    exact Int.mul_ne_zero ih.2 h0
/-- a list without its zeros at the end -/
theorem trim : ∀ P : List Int, ∃ Q : List Int, lnz Q ∧ ∀ k, pgt Q k = pgt P k
  | [] => ⟨[], fun n h => by simp at h, fun _ => rfl⟩
  | a :: p => by
    obtain ⟨Q, h1, h2⟩ := trim p
    by_cases c : Q = [] ∧ a = 0
    · refine ⟨[], fun n h => by simp at h, fun k => ?_⟩
      cases k with
      | zero => exact c.2.symm
      | succ k =>
        show (0 : Int) = pgt p k
        rw [← h2 k, c.1]; rfl
    · refine ⟨a :: Q, fun n h => ?_, fun k => ?_⟩
      · simp only [List.length_cons] at h
        have en : n = Q.length := by omega
        subst en
        cases Q with
        | nil =>
          show a ≠ 0
          exact fun q => c ⟨rfl, q⟩
        | cons b q => exact h1 q.length rfl
      · cases k with
        | zero => rfl
        | succ k => exact h2 k
/-- common divisors with their sum of multiples -/
theorem bez : ∀ (n : Nat) (A B : List Int), B.length ≤ n → lnz A → lnz B → 1 ≤ A.length → ∃ H : List Int, 1 ≤ H.length ∧ lnz H ∧ qd H A ∧ qd H B ∧ ∃ (c : Int) (u v : List Int), c ≠ 0 ∧ ∀ x : Rat, c * pev H x = pev u x * pev A x + pev v x * pev B x
  | n, A, [], _, lA, _, A1 => ⟨A, A1, lA, qd_rfl A, qd_nil A, 1, [1], [], by decide, fun x => by
    rw [pev_c1, rat_i1]
    show 1 * pev A x = 1 * pev A x + 0 * 0
    grind⟩
  | 0, A, b :: B, h, _, _, _ => by simp at h
  | n + 1, A, b :: B, h, lA, lB, A1 => by
    obtain ⟨m, hm⟩ : ∃ m, (b :: B).length = m + 1 := ⟨B.length, rfl⟩
    have L0 := lB m hm
    obtain ⟨al, q, R, a0, rl, e⟩ : ∃ (al : Int) (q R : List Int), al ≠ 0 ∧ R.length < (b :: B).length ∧ ∀ x : Rat, al * pev A x = pev q x * pev (b :: B) x + pev R x := by
      by_cases c : (b :: B).length ≤ A.length
      · obtain ⟨R, r1, r2⟩ := shq_id (F := A) (G := b :: B) (by omega) c
        refine ⟨pgt (b :: B) ((b :: B).length - 1) ^ (A.length + 1 - (b :: B).length), shq A (b :: B), R, ?_, r1, fun x => ?_⟩
        · rw [show (b :: B).length - 1 = m by omega]
          exact Int.pow_ne_zero L0
        · rw [Rat.intCast_pow]; exact r2 x
      · refine ⟨1, [], A, by decide, by omega, fun x => ?_⟩
        rw [rat_i1]
        show 1 * pev A x = 0 * _ + pev A x
        grind
    obtain ⟨R', lR, eR⟩ := trim R
    have rl' : R'.length ≤ R.length := by
      refine Nat.le_of_not_lt fun c => ?_
      obtain ⟨j, hj⟩ : ∃ j, R'.length = j + 1 := ⟨R'.length - 1, by omega⟩
      exact lR j hj (by rw [eR j, pgt_hi R j (by omega)])
    obtain ⟨H, H1, lH, d1, d2, c, u, v, c0, ec⟩ := bez n (b :: B) R' (by simp only [List.length_cons] at h rl ⊢; omega) lB lR (by simp)
    have e' : ∀ x : Rat, al * pev A x = pev q x * pev (b :: B) x + ((1 : Int) : Rat) * pev R' x := fun x => by
      rw [e x, pev_eq eR x, rat_i1]; grind
    refine ⟨H, H1, lH, qd_comb d1 d2 a0 e', d1, c, psm al v, padd u (psm (-1) (pmul v q)), c0, fun x => ?_⟩
    have w1 := ec x
    have w2 := e' x
    have im : ((-1 : Int) : Rat) = -1 := rfl
    rw [psm_ev, padd_ev, psm_ev, pmul_ev, im, w1]
    rw [rat_i1] at w2
    grind
/-- P has no double roots: a sum of multiples of P and P' is a number -/
def sqf (P : List Int) : Prop := ∃ (c : Int) (u v : List Int), c ≠ 0 ∧ ∀ x : Rat, (c : Rat) = pev u x * pev P x + pev v x * pev (pdl P) x
theorem sqf_dv {P W : List Int} (h : qd P W) (hW : sqf W) : sqf P := by
  obtain ⟨c, K, c0, e⟩ := h
  obtain ⟨d, u, v, d0, f⟩ := hW
  have e2 : ∀ x : Rat, c * pev (pdl W) x = pev (pdl P) x * pev K x + pev P x * pev (pdl K) x := fun x => by
    rw [← pdl_sm, ← pdl_mul]
    exact pdl_co (pev_inj (fun x => by rw [psm_ev, pmul_ev]; exact e x)) x
  refine ⟨c * d, padd (pmul u K) (pmul v (pdl K)), pmul v K, Int.mul_ne_zero c0 d0, fun x => ?_⟩
  have a := e x
  have b := f x
  have g := e2 x
  rw [padd_ev, pmul_ev, pmul_ev, pmul_ev, Rat.intCast_mul]
  grind
theorem pev_can {G Z : List Int} (hG : lnz G) (G1 : 1 ≤ G.length) (h : ∀ x : Rat, pev Z x * pev G x = 0) (x : Rat) : pev Z x = 0 := by
  obtain ⟨a, ha⟩ : ∃ a, G.length = a + 1 := ⟨G.length - 1, by omega⟩
  have z : pdb Z 0 := dcan (Z := Z) (A := G) (T := []) (a := a) h (pdb_mono (pdb_len G) (by omega)) (hG a ha) (fun k _ => rfl)
  exact pev_eq (R := []) (fun k => z k (by omega)) x
theorem sqf_quot {F G W D : List Int} {ga : Int} (F1 : 1 ≤ F.length) (lF : lnz F) (lW : lnz W) (W1 : 1 ≤ W.length) (lG : lnz G) (G1 : 1 ≤ G.length) (hF : ∀ x : Rat, pev F x = pev G x * pev W x) (g0 : ga ≠ 0) (hD : ∀ x : Rat, pev (pdl F) x = ga * pev D x) (hg : qd G D) (hb : ∃ (c : Int) (u v : List Int), c ≠ 0 ∧ ∀ x : Rat, c * pev G x = pev u x * pev F x + pev v x * pev D x) : sqf W := by
  obtain ⟨c1, K1, c10, e1⟩ := hg
  obtain ⟨c2, u, v, c20, e2⟩ := hb
  have r1 : (c1 : Rat) ≠ 0 := fun q => c10 (Rat.intCast_eq_zero_iff.1 q)
  have r2 : (c2 : Rat) ≠ 0 := fun q => c20 (Rat.intCast_eq_zero_iff.1 q)
  have im : ((-1 : Int) : Rat) = -1 := rfl
  -- W and V = K1 are without common divisor
  have cop : ∀ x : Rat, (c1 * c2 : Rat) = c1 * pev u x * pev W x + pev v x * pev K1 x := by
    have z := pev_can (G := G) (Z := padd [c1 * c2] (psm (-1) (padd (psm c1 (pmul u W)) (pmul v K1)))) lG G1 (fun x => by
      rw [padd_ev, psm_ev, padd_ev, psm_ev, pmul_ev, pmul_ev, im]
      show (((c1 * c2 : Int) : Rat) + x * 0 + _) * _ = 0
      rw [Rat.intCast_mul]
      have a := e1 x
      have b := e2 x
      have d := hF x
      grind)
    intro x
    have w := z x
    rw [padd_ev, psm_ev, padd_ev, psm_ev, pmul_ev, pmul_ev, im] at w
    have w2 : pev [c1 * c2] x = c1 * c2 := by
      show ((c1 * c2 : Int) : Rat) + x * 0 = _
      rw [Rat.intCast_mul]; grind
    rw [w2] at w
    grind
  -- c1 G' W = G (ga K1 - c1 W')
  have dF : ∀ x : Rat, pev (pdl F) x = pev (pdl G) x * pev W x + pev G x * pev (pdl W) x := fun x => by
    rw [← pdl_mul]
    exact pdl_co (pev_inj (fun x => by rw [pmul_ev]; exact hF x)) x
  have key : ∀ x : Rat, c1 * pev (pdl G) x * pev W x = pev G x * (ga * pev K1 x - c1 * pev (pdl W) x) := fun x => by
    have a := e1 x
    have b := hD x
    have d := dF x
    grind
  obtain ⟨W', lW', eW'⟩ := trim (pdl W)
  obtain ⟨p, p1, lp, d1, d2, c3, u3, v3, c30, e3⟩ := bez W'.length W W' (Nat.le_refl _) lW lW' W1
  have ew : ∀ x : Rat, pev W' x = pev (pdl W) x := fun x => pev_eq eW' x
  by_cases pl : p.length = 1
  · have p0 : pgt p 0 ≠ 0 := lp 0 pl
    have pc0 : ∀ x : Rat, pev p x = (pgt p 0 : Rat) := fun x => by
      rw [pev_eq (R := [pgt p 0]) (fun k => by
        cases k with
        | zero => rfl
        | succ k => exact pgt_hi p (k + 1) (by omega)) x]
      show (pgt p 0 : Rat) + x * 0 = _
      grind
    refine ⟨c3 * pgt p 0, u3, v3, Int.mul_ne_zero c30 p0, fun x => ?_⟩
    rw [Rat.intCast_mul, ← pc0 x, e3 x, ew x]
  · exfalso
    obtain ⟨n, hn⟩ : ∃ n, p.length = n + 2 := ⟨p.length - 2, by omega⟩
    obtain ⟨a1, s, a10, f1⟩ := d1
    obtain ⟨a2, r, a20, f2⟩ := d2
    -- a2 (p' s) = p (a1 r - a2 s')
    have ps' : ∀ x : Rat, a2 * (pev (pdl p) x * pev s x) = pev p x * (a1 * pev r x - a2 * pev (pdl s) x) := by
      intro x
      have w : a1 * pev (pdl W) x = pev (pdl p) x * pev s x + pev p x * pev (pdl s) x := by
        rw [← pdl_sm, ← pdl_mul]
        exact pdl_co (pev_inj (fun x => by rw [psm_ev, pmul_ev]; exact f1 x)) x
      have w2 := f2 x
      rw [ew x] at w2
      grind
    -- p and N are without common divisor, N = ga K1 - c1 W'
    have cpN : ∃ (k0 : Int) (X Y : List Int), k0 ≠ 0 ∧ ∀ x : Rat, (k0 : Rat) = pev X x * pev p x + pev Y x * (ga * pev K1 x - c1 * pev (pdl W) x) := by
      refine ⟨a1 * a2 * ga * (c1 * c2), padd (psm (a2 * ga * c1) (pmul u s)) (psm (a1 * c1) (pmul v r)), psm (a1 * a2) v, Int.mul_ne_zero (Int.mul_ne_zero (Int.mul_ne_zero a10 a20) g0) (Int.mul_ne_zero c10 c20), fun x => ?_⟩
      have w1 := cop x
      have w2 := f1 x
      have w3 := f2 x
      rw [ew x] at w3
      rw [padd_ev, psm_ev, psm_ev, psm_ev, pmul_ev, pmul_ev]
      simp only [Rat.intCast_mul]
      grind
    obtain ⟨k0, X, Y, k00, eN⟩ := cpN
    have cpk : ∀ m : Nat, ∃ (k1 : Int) (X Y : List Int), k1 ≠ 0 ∧ ∀ x : Rat, (k1 : Rat) = pev X x * pev p x ^ m + pev Y x * (ga * pev K1 x - c1 * pev (pdl W) x) := by
      intro m
      induction m with
      | zero => exact ⟨1, [1], [], by decide, fun x => by
          rw [pev_c1, rat_i1]
          show (1 : Rat) = 1 * pev p x ^ 0 + 0 * _
          grind⟩
      | succ m ih =>
        obtain ⟨k1, X1, Y1, k10, e⟩ := ih
        refine ⟨k1 * k0, pmul X1 X, padd (psm k0 Y1) (pmul (pmul X1 Y) (ppw p m)), Int.mul_ne_zero k10 k00, fun x => ?_⟩
        have w1 := e x
        have w2 := eN x
        rw [padd_ev, psm_ev, pmul_ev, pmul_ev, pmul_ev, ppw_ev, Rat.intCast_mul, Rat.pow_succ]
        grind
    have all : ∀ m : Nat, ∃ (b : Int) (t : List Int), b ≠ 0 ∧ ∀ x : Rat, b * pev G x = pev p x ^ m * pev t x := by
      intro m
      induction m with
      | zero => exact ⟨1, G, by decide, fun x => by rw [rat_i1]; grind⟩
      | succ m ih =>
        obtain ⟨b, t, b0, e⟩ := ih
        obtain ⟨k1, X1, Y1, k10, eK⟩ := cpk (m + 1)
        -- b G' = m p^(m-1) p' t + p^m t'
        have dG : ∃ T : List Int, ∀ x : Rat, a2 * b * pev (pdl G) x * pev s x = pev p x ^ m * pev T x := by
          cases m with
          | zero =>
            refine ⟨psm a2 (pmul (psm b (pdl G)) s), fun x => ?_⟩
            rw [psm_ev, pmul_ev, psm_ev]
            grind
          | succ m =>
            have dd : ∀ x : Rat, b * pev (pdl G) x = (((m : Int) + 1 : Int) : Rat) * pev p x ^ m * pev (pdl p) x * pev t x + pev p x ^ (m + 1) * pev (pdl t) x := fun x => by
              rw [← ppw_ev p x (m + 1), ← ppw_d, ← pdl_mul, ← pdl_sm]
              exact pdl_co (pev_inj (fun x => by rw [psm_ev, pmul_ev, ppw_ev]; exact e x)) x
            refine ⟨padd (psm ((m : Int) + 1) (pmul t (padd (psm a1 r) (psm (-a2) (pdl s))))) (psm a2 (pmul s (pdl t))), fun x => ?_⟩
            have w1 := dd x
            have w2 := ps' x
            rw [padd_ev, psm_ev, psm_ev, pmul_ev, pmul_ev, padd_ev, psm_ev, psm_ev, Rat.intCast_neg]
            have w3 : a2 * b * pev (pdl G) x * pev s x = (((m : Int) + 1 : Int) : Rat) * pev p x ^ m * pev t x * (a2 * (pev (pdl p) x * pev s x)) + a2 * pev p x ^ (m + 1) * pev (pdl t) x * pev s x := by grind
            rw [w3, w2, Rat.pow_succ]
            grind
        obtain ⟨T, eT⟩ := dG
        -- a1 a2 b G N = c1 p^(m+1) T
        have gN : ∀ x : Rat, a1 * a2 * b * (pev G x * (ga * pev K1 x - c1 * pev (pdl W) x)) = c1 * pev p x ^ (m + 1) * pev T x := fun x => by
          have w1 := key x
          have w2 := f1 x
          have w3 := eT x
          rw [← w1, Rat.pow_succ]
          have w4 : a1 * a2 * b * (c1 * pev (pdl G) x * pev W x) = c1 * (a2 * b * pev (pdl G) x * pev s x) * pev p x := by grind
          rw [w4, w3]
          grind
        refine ⟨a1 * a2 * b * k1, padd (psm (a1 * a2 * b) (pmul X1 G)) (psm c1 (pmul Y1 T)), Int.mul_ne_zero (Int.mul_ne_zero (Int.mul_ne_zero a10 a20) b0) k10, fun x => ?_⟩
        have w1 := eK x
        have w2 := gN x
        rw [padd_ev, psm_ev, psm_ev, pmul_ev, pmul_ev]
        simp only [Rat.intCast_mul]
        grind
    obtain ⟨b, t, b0, e⟩ := all G.length
    have pp := ppw_len (P := p) (n := n + 1) (pdb_mono (pdb_len p) (by omega)) (lp (n + 1) (by omega)) G.length
    have q1 : qd (ppw p G.length) G := ⟨b, t, b0, fun x => by rw [ppw_ev]; exact e x⟩
    obtain ⟨g, hg⟩ : ∃ g, G.length = g + 1 := ⟨G.length - 1, by omega⟩
    have z : pdb t 0 := dcan (Z := t) (A := ppw p G.length) (T := psm b G) (a := G.length * (n + 1)) (fun x => by rw [psm_ev, ppw_ev, Rat.mul_comm]; exact (e x).symm) pp.1 pp.2 (pdb_sm (pdb_mono (pdb_len G) (by
      have : G.length * 1 ≤ G.length * (n + 1) := Nat.mul_le_mul_left _ (by omega)
      omega)))
    have w : pgt (psm b G) g = 0 := pev_zero (fun x => by
      rw [psm_ev, e x, pev_eq (P := t) (R := []) (fun k => z k (by omega)) x]
      show _ * (0 : Rat) = 0
      grind) g
    rw [psm_gt] at w
    rcases Int.mul_eq_zero.1 w with q | q
    · exact b0 q
    · exact lG g hg q
