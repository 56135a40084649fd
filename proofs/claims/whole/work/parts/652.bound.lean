/-! HOW LARGE THE RESTS OF EUCLID'S SCHEME ARE -/
def pdb (P : List Int) (n : Nat) : Prop := ∀ k, n ≤ k → pgt P k = 0
def pab (P : List Int) (H : Nat) : Prop := ∀ k, (pgt P k).natAbs ≤ H
theorem pdb_len (P : List Int) : pdb P P.length := fun k hk => pgt_hi P k hk
theorem pdb_mono {P : List Int} {m n : Nat} (h : pdb P m) (hm : m ≤ n) : pdb P n := fun k hk => h k (by omega)
theorem pdb_tr {P : List Int} {n : Nat} (h : pdb P n) (k : Nat) : pgt (pmk n (pgt P)) k = pgt P k := by
  rw [pmk_gt]
  by_cases c : k < n
  · rw [if_pos c]
  · rw [if_neg c, h k (by omega)]
theorem pdb_ev {P : List Int} {n : Nat} (h : pdb P n) (x : Rat) : pev (pmk n (pgt P)) x = pev P x := pev_eq (pdb_tr h) x
theorem pdb_mul {P Q : List Int} {m n : Nat} (hP : pdb P m) (hQ : pdb Q n) : pdb (pmul P Q) (m + n - 1) := fun k hk => by
  have e : pgt (pmul P Q) k = pgt (pmul (pmk m (pgt P)) (pmk n (pgt Q))) k := pev_inj (fun x => by rw [pmul_ev, pmul_ev, pdb_ev hP, pdb_ev hQ]) k
  rw [e]
  exact pmul_hi _ _ k (by rw [pmk_len, pmk_len]; omega)
theorem pdb_top {P Q : List Int} {m n : Nat} (hP : pdb P (m + 1)) (hQ : pdb Q (n + 1)) : pgt (pmul P Q) (m + n) = pgt P m * pgt Q n := by
  have e : pgt (pmul P Q) (m + n) = pgt (pmul (pmk (m + 1) (pgt P)) (pmk (n + 1) (pgt Q))) (m + n) := pev_inj (fun x => by rw [pmul_ev, pmul_ev, pdb_ev hP, pdb_ev hQ]) (m + n)
  rw [e, pmul_top _ _ m n (by rw [pmk_len]; omega) (by rw [pmk_len]; omega), pdb_tr hP, pdb_tr hQ]
theorem pdb_add {P Q : List Int} {n : Nat} (hP : pdb P n) (hQ : pdb Q n) : pdb (padd P Q) n := fun k hk => by rw [padd_gt, hP k hk, hQ k hk]; rfl
theorem pdb_sm {P : List Int} {n : Nat} {c : Int} (hP : pdb P n) : pdb (psm c P) n := fun k hk => by rw [psm_gt, hP k hk, Int.mul_zero]
/-- degrees: what a factor has above, the product has above -/
theorem dcan {Z A T : List Int} {a j : Nat} (he : ∀ x : Rat, pev Z x * pev A x = pev T x) (hA : pdb A (a + 1)) (hA0 : pgt A a ≠ 0) (hT : pdb T (a + j)) : pdb Z j := by
  have go : ∀ n m : Nat, m ≤ j + n → pdb Z m → pdb Z j := by
    intro n
    induction n with
    | zero => intro m hm hz; exact pdb_mono hz (by omega)
    | succ n ih =>
      intro m hm hz
      by_cases c : m ≤ j
      · exact pdb_mono hz c
      · refine ih (m - 1) (by omega) (fun k hk => ?_)
        by_cases c2 : k = m - 1
        · subst c2
          have hz' : pdb Z (m - 1 + 1) := pdb_mono hz (by omega)
          have t := pdb_top hz' hA
          rw [pev_inj (P := pmul Z A) (Q := T) (fun x => by rw [pmul_ev]; exact he x), hT _ (by omega)] at t
          rcases Int.mul_eq_zero.1 t.symm with q | q
          · exact q
          · exact absurd q hA0
        · exact hz k (by omega)
  exact go Z.length Z.length (by omega) (pdb_len Z)
theorem pev_shp {P : List Int} {i n : Nat} (hn : i + P.length ≤ n) (x : Rat) : pev (pmk n (fun k => if k < i then 0 else pgt P (k - i))) x = x ^ i * pev P x := by
  have h := pev_shift i (n - i) (pgt P) x
  rw [show i + (n - i) = n by omega, pev_pad P (n - i) x (by omega)] at h
  exact h
/-- the equations: the factors of U A + V B -/
def rcf (A B : List Int) (m k i : Nat) : Int := if i < m then (if k < i then 0 else pgt A (k - i)) else (if k < i - m then 0 else pgt B (k - (i - m)))
theorem rcf_ev {A B : List Int} {m n : Nat} (z : Nat → Int) (x : Rat) : ∀ N : Nat, N + A.length + B.length ≤ n → pev (pmk n (fun k => sm N (fun i => rcf A B m k i * z i))) x = pev (pmk (min N m) z) x * pev A x + pev (pmk (N - m) (fun j => z (m + j))) x * pev B x
  | 0, _ => by
    rw [pev_z n (fun k => sm 0 (fun i => rcf A B m k i * z i)) x (fun k _ => rfl), Nat.zero_min, Nat.zero_sub]
    show (0 : Rat) = 0 * _ + 0 * _
    grind
  | N + 1, h => by
    have ih := rcf_ev (A := A) (B := B) (m := m) (n := n) z x N (by omega)
    have e : pev (pmk n (fun k => sm (N + 1) (fun i => rcf A B m k i * z i))) x = pev (pmk n (fun k => sm N (fun i => rcf A B m k i * z i))) x + z N * pev (pmk n (fun k => rcf A B m k N)) x := by
      rw [← pev_sc, ← pev_add]
      refine congrArg (fun p => pev p x) (pmk_co (fun k _ => ?_))
      show sm N (fun i => rcf A B m k i * z i) + rcf A B m k N * z N = _
      rw [Int.mul_comm (z N)]
    rw [e, ih]
    by_cases c : N < m
    · have e2 : pev (pmk n (fun k => rcf A B m k N)) x = x ^ N * pev A x := by
        rw [← pev_shp (P := A) (i := N) (n := n) (by omega) x]
        refine congrArg (fun p => pev p x) (pmk_co (fun k _ => ?_))
        unfold rcf
        rw [if_pos c]
      rw [e2, show min (N + 1) m = N + 1 by omega, show min N m = N by omega, pev_top, show N + 1 - m = 0 by omega, show N - m = 0 by omega]
      grind
    · have e2 : pev (pmk n (fun k => rcf A B m k N)) x = x ^ (N - m) * pev B x := by
        rw [← pev_shp (P := B) (i := N - m) (n := n) (by omega) x]
        refine congrArg (fun p => pev p x) (pmk_co (fun k _ => ?_))
        unfold rcf
        rw [if_neg c]
      rw [e2, show min (N + 1) m = m by omega, show min N m = m by omega, show N + 1 - m = (N - m) + 1 by omega, pev_top, show m + (N - m) = N by omega]
      grind
theorem prm1_le {Y S : List Int} {d e : Int} (hY : prm1 Y) (hd : d ≠ 0) (he : e ≠ 0) (h : ∀ k, d * pgt S k = e * pgt Y k) (k : Nat) : (pgt Y k).natAbs ≤ (pgt S k).natAbs := by
  have hn : ∀ k, d.natAbs * (pgt S k).natAbs = e.natAbs * (pgt Y k).natAbs := fun k => by rw [← Int.natAbs_mul, ← Int.natAbs_mul, h k]
  obtain ⟨g, hg⟩ : ∃ g, g = Nat.gcd d.natAbs e.natAbs := ⟨_, rfl⟩
  have g0 : 0 < g := by rw [hg]; exact Nat.gcd_pos_of_pos_left _ (by omega)
  obtain ⟨d1, hd1⟩ : g ∣ d.natAbs := by rw [hg]; exact Nat.gcd_dvd_left _ _
  obtain ⟨e1, he1⟩ : g ∣ e.natAbs := by rw [hg]; exact Nat.gcd_dvd_right _ _
  have cop : Nat.Coprime d1 e1 := by
    have q : g * Nat.gcd d1 e1 = g * 1 := by
      rw [← Nat.gcd_mul_left, ← hd1, ← he1, ← hg, Nat.mul_one]
    exact Nat.eq_of_mul_eq_mul_left g0 q
  have hn2 : ∀ k, d1 * (pgt S k).natAbs = e1 * (pgt Y k).natAbs := fun k => by
    have q := hn k
    rw [hd1, he1, Nat.mul_assoc, Nat.mul_assoc] at q
    exact Nat.eq_of_mul_eq_mul_left g0 q
  have dv : ∀ k, (d1 : Int) ∣ pgt Y k := fun k => by
    refine Int.ofNat_dvd_left.2 (Nat.Coprime.dvd_of_dvd_mul_left cop ?_)
    rw [← hn2 k]
    exact Nat.dvd_mul_right _ _
  have d11 : d1 = 1 := by
    have := Int.ofNat_dvd_left.1 (hY _ dv)
    exact Nat.dvd_one.1 this
  have e10 : 0 < e1 := by
    rcases Nat.eq_zero_or_pos e1 with q | q
    · rw [q, Nat.mul_zero] at he1; omega
    · exact q
  have q := hn2 k
  rw [d11, Nat.one_mul] at q
  rw [q]
  exact Nat.le_mul_of_pos_left _ e10
theorem rem_bound {A B Y u' v' u v : List Int} {a b x H : Nat} {c d : Int} (hA : pdb A (a + 1)) (hA0 : pgt A a ≠ 0) (hB : pdb B (b + 1)) (hB0 : pgt B b ≠ 0) (HA : pab A H) (HB : pab B H) (H1 : 1 ≤ H) (hx : x ≤ b) (hx' : x ≤ a) (hYx : pdb Y x) (Yp : prm1 Y) (c0 : c ≠ 0) (d0 : d ≠ 0) (hY : ∀ t : Rat, c * pev Y t = pev u t * pev A t + pev v t * pev B t) (hd : ∀ t : Rat, pev u' t * pev v t - pev u t * pev v' t = d) (hv : pdb v (a - x + 1)) (hv0 : pgt v (a - x) ≠ 0) (hu : pdb u (b - x + 1)) (k : Nat) : (pgt Y k).natAbs ≤ ((a + b - 2 * x + 2) * H) ^ (a + b - 2 * x + 2) := by
  obtain ⟨m1, hm1⟩ : ∃ m1, m1 = b - x + 1 := ⟨_, rfl⟩
  obtain ⟨m2, hm2⟩ : ∃ m2, m2 = a - x + 1 := ⟨_, rfl⟩
  obtain ⟨E, hE⟩ : ∃ E, E + 1 = m1 + m2 := ⟨m1 + m2 - 1, by omega⟩
  have rb : ∀ k i, (rcf A B m1 k i).natAbs ≤ H := by
    intro k i
    unfold rcf
    split
    · split
      · show (0 : Int).natAbs ≤ H; omega
      · exact HA _
    · split
      · show (0 : Int).natAbs ≤ H; omega
      · exact HB _
  obtain ⟨z, ⟨i0, hi0, hz0⟩, hzb, hze⟩ := siegel (E := E) (A := H) (fun e i => rcf A B m1 (x + e) i) H1 (fun e i _ _ => rb (x + e) i)
  obtain ⟨U, hU⟩ : ∃ U, U = pmk m1 z := ⟨_, rfl⟩
  obtain ⟨V, hV⟩ : ∃ V, V = pmk m2 (fun j => z (m1 + j)) := ⟨_, rfl⟩
  obtain ⟨S, hS⟩ : ∃ S, S = pmk x (fun k => sm (E + 1) (fun i => rcf A B m1 k i * z i)) := ⟨_, rfl⟩
  have sk : ∀ k, pgt S k = sm (E + 1) (fun i => rcf A B m1 k i * z i) := by
    intro k
    rw [hS, pmk_gt]
    by_cases q : k < x
    · rw [if_pos q]
    · rw [if_neg q]
      by_cases q2 : k < x + E
      · have w := hze (k - x) (by omega)
        rw [show x + (k - x) = k by omega] at w
        exact w.symm
      · have w : ∀ i, i < E + 1 → rcf A B m1 k i * z i = 0 := by
          intro i hi
          have w2 : rcf A B m1 k i = 0 := by
            unfold rcf
            split
            · split
              · rfl
              · exact hA _ (by omega)
            · split
              · rfl
              · exact hB _ (by omega)
          rw [w2, Int.zero_mul]
        have w3 : ∀ n, n ≤ E + 1 → sm n (fun i => rcf A B m1 k i * z i) = 0 := by
          intro n
          induction n with
          | zero => intro _; rfl
          | succ n ih =>
            intro hn
            show sm n (fun i => rcf A B m1 k i * z i) + rcf A B m1 k n * z n = 0
            rw [ih (by omega), w n (by omega)]
            rfl
        exact (w3 (E + 1) (Nat.le_refl _)).symm
  have Sev : ∀ t : Rat, pev S t = pev U t * pev A t + pev V t * pev B t := by
    intro t
    have w := rcf_ev (A := A) (B := B) (m := m1) (n := E + 1 + A.length + B.length + x) z t (E + 1) (by omega)
    rw [show min (E + 1) m1 = m1 by omega, show E + 1 - m1 = m2 by omega, ← hU, ← hV] at w
    rw [← w]
    refine pev_eq (fun k => ?_) t
    rw [pmk_gt]
    by_cases q : k < E + 1 + A.length + B.length + x
    · rw [if_pos q]; exact sk k
    · rw [if_neg q, hS, pmk_gt, if_neg (by omega)]
  have Udb : pdb U m1 := by rw [hU]; exact fun k hk => by rw [pmk_gt, if_neg (by omega)]
  have Vdb : pdb V m2 := by rw [hV]; exact fun k hk => by rw [pmk_gt, if_neg (by omega)]
  have Sdb : pdb S x := by rw [hS]; exact fun k hk => by rw [pmk_gt, if_neg (by omega)]
  have im : ((-1 : Int) : Rat) = -1 := rfl
  -- u V = U v
  have h1 : ∀ t : Rat, pev u t * pev V t = pev U t * pev v t := by
    have w : pdb (padd (pmul u V) (psm (-1) (pmul U v))) 0 := by
      refine dcan (A := A) (T := padd (psm c (pmul Y V)) (psm (-1) (pmul S v))) (a := a) (fun t => ?_) hA hA0 ?_
      · rw [padd_ev, psm_ev, pmul_ev, pmul_ev, padd_ev, psm_ev, psm_ev, pmul_ev, pmul_ev, im]
        have q1 := hY t
        have q2 := Sev t
        grind
      · refine pdb_add (pdb_sm (pdb_mono (pdb_mul hYx Vdb) (by omega))) (pdb_sm (pdb_mono (pdb_mul Sdb hv) (by omega)))
    intro t
    have q : pev (padd (pmul u V) (psm (-1) (pmul U v))) t = pev [] t := pev_eq (fun k => w k (by omega)) t
    rw [padd_ev, psm_ev, pmul_ev, pmul_ev, im] at q
    have q2 : pev [] t = 0 := rfl
    rw [q2] at q
    grind
  obtain ⟨T, hT⟩ : ∃ T, T = padd (pmul u' V) (psm (-1) (pmul v' U)) := ⟨_, rfl⟩
  have Tev : ∀ t : Rat, pev T t = pev u' t * pev V t - pev v' t * pev U t := by
    intro t
    rw [hT, padd_ev, psm_ev, pmul_ev, pmul_ev, im]
    grind
  have hdV : ∀ t : Rat, pev T t * pev v t = pev (psm d V) t := by
    intro t
    rw [psm_ev]
    have q1 := h1 t
    have q2 := hd t
    have q3 := Tev t
    grind
  have hdU : ∀ t : Rat, pev T t * pev u t = d * pev U t := by
    intro t
    have q1 := h1 t
    have q2 := hd t
    have q3 := Tev t
    grind
  have hdS : ∀ t : Rat, d * pev S t = c * pev Y t * pev T t := by
    intro t
    have q1 := h1 t
    have q2 := hd t
    have q3 := Tev t
    have q4 := hY t
    have q5 := Sev t
    have q6 : pev S t * pev v t = c * pev Y t * pev V t := by grind
    have q7 : pev S t * pev u t = c * pev Y t * pev U t := by grind
    grind
  have T1 : pdb T 1 := dcan (A := v) (a := a - x) hdV hv hv0 (pdb_sm (pdb_mono Vdb (by omega)))
  have Tc : ∀ t : Rat, pev T t = (pgt T 0 : Rat) := by
    intro t
    have q : pev T t = pev [pgt T 0] t := pev_eq (fun k => by
      cases k with
      | zero => rfl
      | succ k => exact T1 (k + 1) (by omega)) t
    rw [q]
    show (pgt T 0 : Rat) + t * 0 = _
    grind
  have T0 : pgt T 0 ≠ 0 := by
    intro e
    have z1 : ∀ t : Rat, pev T t = 0 := fun t => by rw [Tc t, e, rat_i0]
    have dr : (d : Rat) ≠ 0 := fun q => d0 (Rat.intCast_eq_zero_iff.1 q)
    have zV : ∀ k, pgt V k = 0 := pev_zero (fun t => by
      have q := hdV t
      rw [psm_ev, z1 t] at q
      have q2 : (d : Rat) * pev V t = 0 := by grind
      rcases Rat.mul_eq_zero.1 q2 with w | w
      · exact absurd w dr
      · exact w)
    have zU : ∀ k, pgt U k = 0 := pev_zero (fun t => by
      have q := hdU t
      rw [z1 t] at q
      have q2 : (d : Rat) * pev U t = 0 := by grind
      rcases Rat.mul_eq_zero.1 q2 with w | w
      · exact absurd w dr
      · exact w)
    refine hz0 ?_
    by_cases q : i0 < m1
    · have w := zU i0
      rw [hU, pmk_gt, if_pos q] at w
      exact w
    · have w := zV (i0 - m1)
      rw [hV, pmk_gt, if_pos (by omega), show m1 + (i0 - m1) = i0 by omega] at w
      exact w
  have fin : ∀ k, d * pgt S k = (c * pgt T 0) * pgt Y k := by
    intro k
    rw [← psm_gt, ← psm_gt]
    refine pev_inj (fun t => ?_) k
    rw [psm_ev, psm_ev, hdS t, Tc t, Rat.intCast_mul]
    grind
  have ct : c * pgt T 0 ≠ 0 := fun q => by
    rcases Int.mul_eq_zero.1 q with w | w
    · exact c0 w
    · exact T0 w
  refine Nat.le_trans (prm1_le Yp d0 ct fin k) ?_
  rw [sk k]
  have eN : a + b - 2 * x + 2 = E + 1 := by omega
  rw [eN]
  have w := sm_abs (n := E + 1) (f := fun i => rcf A B m1 k i * z i) (B := H * ((E + 1) * H) ^ E) (fun i hi => by
    rw [Int.natAbs_mul]
    exact Nat.mul_le_mul (rb k i) (hzb i hi))
  refine Nat.le_trans w ?_
  rw [Nat.pow_succ, ← Nat.mul_assoc, Nat.mul_comm (((E + 1) * H) ^ E)]
  exact Nat.le_refl _
