/-! VALUES AT THE NODES, zeros at corners, the sign near the right end -/
theorem rp_ad (x : Rat) (m : Nat) : ∀ n : Nat, x ^ (m + n) = x ^ m * x ^ n
  | 0 => by rw [Nat.add_zero]; grind
  | n + 1 => by rw [← Nat.add_assoc, Rat.pow_succ, rp_ad x m n, Rat.pow_succ, Rat.mul_assoc]
theorem nM_ev (a : List Int) (y : Rat) : ∀ (t : Nat) (c : Int), -(2 ^ t) ≤ c → c ≤ 2 ^ t → pev (nM a t c) (2 ^ t * y - c) = 2 ^ (t * (a.length - 1)) * pev a (y + 1)
  | 0, c, h1, h2 => by
    have : c = -1 ∨ c = 0 ∨ c = 1 := by have e : (2 : Int) ^ 0 = 1 := rfl; omega
    have e1 : (((-1 : Int)) : Rat) = -1 := rfl
    have e2 : (((1 : Int)) : Rat) = 1 := rfl
    have e3 : (((0 : Int)) : Rat) = 0 := rfl
    rcases this with q | q | q <;> subst q
    · show pev a _ = _
      rw [e1, Nat.zero_mul, show (2 : Rat) ^ 0 * y - -1 = y + 1 by grind]; grind
    · show pev (pS a) _ = _
      rw [pS_ev, e3, Nat.zero_mul, show (1 : Rat) + (2 ^ 0 * y - 0) = y + 1 by grind]; grind
    · show pev (pS (pS a)) _ = _
      rw [pS_ev, pS_ev, e2, Nat.zero_mul, show (1 : Rat) + (1 + (2 ^ 0 * y - 1)) = y + 1 by grind]; grind
  | t + 1, c, h1, h2 => by
    rw [p2s] at h1 h2
    obtain ⟨k, q | q⟩ := par c
    · subst q
      have e : (2 : Rat) ^ (t + 1) * y - ((2 * k : Int) : Rat) = 2 * (2 ^ t * y - k) := by
        rw [Rat.intCast_mul]; have : ((2 : Int) : Rat) = 2 := rfl; rw [this]; grind
      rw [nM_e, e, pH_ev, nM_len, nM_ev a y t k (by omega) (by omega), Nat.succ_mul, rp_ad]
      grind
    · subst q
      have e : (1 : Rat) + ((2 : Rat) ^ (t + 1) * y - ((2 * k + 1 : Int) : Rat)) = 2 * (2 ^ t * y - k) := by
        rw [Rat.intCast_add, Rat.intCast_mul]; have : ((2 : Int) : Rat) = 2 := rfl; have e1 : ((1 : Int) : Rat) = 1 := rfl; rw [this, e1]; grind
      rw [nM_o, pS_ev, e, pH_ev, nM_len, nM_ev a y t k (by omega) (by omega), Nat.succ_mul, rp_ad]
      grind
theorem pev_0 (m : List Int) : pev m 0 = (pgt m 0 : Rat) := by
  cases m with
  | nil => rfl
  | cons a p => show (a : Rat) + 0 * _ = (a : Rat); grind
/-- the rest of a division by q y - p, times a power of q -/
theorem psq (p q : Int) : ∀ a : List Int, ∃ (K : List Int) (r : Int), ∀ y : Rat, q ^ a.length * pev a y = (q * y - p) * pev K y + r
  | [] => ⟨[], 0, fun y => by show _ * (0 : Rat) = _ * 0 + ((0 : Int) : Rat); rw [rat_i0]; grind⟩
  | x :: a => by
    obtain ⟨K, r, h⟩ := psq p q a
    refine ⟨r :: psm q K, q ^ (a.length + 1) * x + r * p, fun y => ?_⟩
    have e := h y
    show (q : Rat) ^ (a.length + 1) * ((x : Rat) + y * pev a y) = (q * y - p) * ((r : Rat) + y * pev (psm q K) y) + ((q ^ (a.length + 1) * x + r * p : Int) : Rat)
    rw [psm_ev, Rat.intCast_add, Rat.intCast_mul, Rat.intCast_mul, Rat.intCast_pow]
    have e2 : (q : Rat) ^ (a.length + 1) * (y * pev a y) = q * y * (q ^ a.length * pev a y) := by grind
    rw [Rat.mul_add, e2, e]
    grind
theorem prm_lin {p q : Int} (h : Int.gcd p q = 1) : prm1 [-p, q] := by
  intro d hd
  have h0 : d ∣ -p := hd 0
  have h1 : d ∣ q := hd 1
  have : d ∣ (Int.gcd p q : Int) := Int.dvd_coe_gcd (Int.dvd_neg.1 h0) h1
  rw [h] at this
  exact this
theorem lnf_ev (p q : Int) (y : Rat) : pev [-p, q] y = q * y - p := by
  show ((-p : Int) : Rat) + y * ((q : Rat) + y * 0) = _
  rw [Rat.intCast_neg]; grind
/-- a fraction that is a zero gives a linear factor -/
theorem lin_fac {a : List Int} {p q : Int} (hq : 0 < q) (hg : Int.gcd p q = 1) {z : Rat} (hz : q * z = p) (h0 : pev a z = 0) (hl : 1 ≤ a.length) : ∃ a', a = lml (-p) q a' ∧ a.length = a'.length + 1 := by
  obtain ⟨K, r, h⟩ := psq p q a
  have r0 : r = 0 := by
    have e := h z
    rw [h0, hz] at e
    have : (r : Rat) = 0 := by grind
    exact Rat.intCast_inj.1 this
  obtain ⟨K', hK⟩ := gauss (q ^ a.length).natAbs (q ^ a.length) [-p, q] a K (Nat.le_refl _) (Int.ne_of_gt (Int.pow_pos hq)) (prm_lin hg) (fun y => by
    rw [lnf_ev, Rat.intCast_pow, h y, r0, rat_i0]; grind)
  have hp : pdb K' (a.length - 1) := dcan (A := [-p, q]) (T := a) (a := 1) (fun x => by rw [hK x]; grind) (pdb_len [-p, q]) (by show q ≠ 0; omega) (by rw [show 1 + (a.length - 1) = a.length by omega]; exact pdb_len a)
  refine ⟨pmk (a.length - 1) (pgt K'), ?_, by rw [pmk_len]; omega⟩
  refine lst_ev (by rw [lml_len, pmk_len]; omega) (fun x => ?_)
  rw [lml_ev, pdb_ev hp, hK x, lnf_ev, Rat.intCast_neg]; grind
theorem red (p : Int) {q : Int} (hq : 0 < q) : ∃ p' q' g : Int, 0 < g ∧ p = g * p' ∧ q = g * q' ∧ 0 < q' ∧ Int.gcd p' q' = 1 := by
  have g0 : 0 < Int.gcd p q := Int.gcd_pos_of_ne_zero_right _ (by omega)
  obtain ⟨p', hp⟩ := Int.gcd_dvd_left p q
  obtain ⟨q', hq'⟩ := Int.gcd_dvd_right p q
  have gz : (0 : Int) < (Int.gcd p q : Int) := by omega
  refine ⟨p', q', Int.gcd p q, gz, hp, hq', ?_, ?_⟩
  · refine Int.lt_of_not_ge fun c => ?_
    have := Int.mul_nonpos_of_nonneg_of_nonpos (Int.le_of_lt gz) c
    omega
  · have e : Int.gcd ((Int.gcd p q : Int) * p') ((Int.gcd p q : Int) * q') = Int.gcd p q * Int.gcd p' q' := by
      rw [Int.gcd_mul_left]; rfl
    rw [← hp, ← hq'] at e
    have : Int.gcd p q * 1 = Int.gcd p q * Int.gcd p' q' := by omega
    exact (Nat.eq_of_mul_eq_mul_left g0 this).symm
/-- a zero at a corner -/
theorem nM_drop {a : List Int} {t : Nat} {c : Int} (h1 : -(2 ^ t) ≤ c) (h2 : c ≤ 2 ^ t) (hl : 2 ≤ a.length) (h0 : pgt (nM a t c) 0 = 0) : ∃ (al be : Int) (a' : List Int), 0 < be ∧ a = lml al be a' ∧ a.length = a'.length + 1 ∧ 2 ^ t * (al + be) + be * c = 0 := by
  obtain ⟨p, q, g, g0, ep, eq, q0, hg⟩ := red (c + 2 ^ t) (p2p t)
  have tq : (2 : Rat) ^ t ≠ 0 := by
    have := p2p t
    have e : ((2 ^ t : Int) : Rat) = 2 ^ t := by rw [Rat.intCast_pow]; rfl
    intro z
    rw [← e] at z
    have := Rat.intCast_inj.1 (z.trans rat_i0.symm)
    omega
  have ev := nM_ev a ((c : Rat) / 2 ^ t) t c h1 h2
  rw [show (2 : Rat) ^ t * ((c : Rat) / 2 ^ t) - c = 0 by grind, pev_0, h0, rat_i0] at ev
  have z0 : pev a ((c : Rat) / 2 ^ t + 1) = 0 := by
    have : (2 : Rat) ^ (t * (a.length - 1)) ≠ 0 := by
      have := p2p (t * (a.length - 1))
      have e : ((2 ^ (t * (a.length - 1)) : Int) : Rat) = 2 ^ (t * (a.length - 1)) := by rw [Rat.intCast_pow]; rfl
      intro z
      rw [← e] at z
      have := Rat.intCast_inj.1 (z.trans rat_i0.symm)
      omega
    rcases Rat.mul_eq_zero.1 ev.symm with q | q
    · exact absurd q this
    · exact q
  have hz : (q : Rat) * ((c : Rat) / 2 ^ t + 1) = p := by
    have a1 : ((c + 2 ^ t : Int) : Rat) = g * p := by rw [ep, Rat.intCast_mul]
    have a2 : ((2 ^ t : Int) : Rat) = g * q := by rw [← Rat.intCast_mul, ← eq]
    rw [Rat.intCast_add] at a1
    have a3 : ((2 ^ t : Int) : Rat) = 2 ^ t := by rw [Rat.intCast_pow]; rfl
    rw [a3] at a1 a2
    have gr : (g : Rat) ≠ 0 := fun z => by
      have := Rat.intCast_inj.1 (z.trans rat_i0.symm)
      omega
    have b1 : (g : Rat) * (q * ((c : Rat) / 2 ^ t + 1)) = g * p := by
      rw [← Rat.mul_assoc, ← a2, Rat.mul_add, ← a1]; grind
    have b2 : (g : Rat) * ((q * ((c : Rat) / 2 ^ t + 1)) - p) = 0 := by grind
    rcases Rat.mul_eq_zero.1 b2 with z | z
    · exact absurd z gr
    · grind
  obtain ⟨a', e, el⟩ := lin_fac q0 hg hz z0 (by omega)
  refine ⟨-p, q, a', q0, e, el, ?_⟩
  have : g * (2 ^ t * (-p + q) + q * c) = 0 := by
    have x1 : g * (2 ^ t * (-p + q) + q * c) = 2 ^ t * (-(g * p) + g * q) + g * q * c := by grind
    rw [x1, ← ep, ← eq]; grind
  rcases Int.mul_eq_zero.1 this with z | z
  · omega
  · exact z
theorem lml_z (be : Int) (m : List Int) : lml 0 be m = 0 :: m.map (be * ·) := by
  have g : ∀ (m : List Int) (p : Int), lmu 0 be p m = be * p :: m.map (be * ·) := by
    intro m
    induction m with
    | nil => intro p; rfl
    | cons x r ih => intro p; show (0 * x + be * p) :: lmu 0 be x r = be * p :: be * x :: r.map _; rw [ih x, Int.zero_mul, Int.zero_add]
  show lmu 0 be 0 m = _
  rw [g m 0, Int.mul_zero]
/-! one change of sign -/
def fnz : List Int → Int
  | [] => 0
  | x :: r => if x = 0 then fnz r else x
theorem vr_01 : ∀ (r : List Int) (l : Int), l ≠ 0 → lst1 (l :: r) ≠ 0 → (vr l r = 0 → 0 < l * lst1 (l :: r)) ∧ (vr l r = 1 → l * lst1 (l :: r) < 0)
  | [], l, h, _ => ⟨fun _ => by
      show 0 < l * l
      rcases Int.lt_or_gt_of_ne h with q | q
      · exact Int.mul_pos_of_neg_of_neg q q
      · exact Int.mul_pos q q, fun h => by simp [vr] at h⟩
  | x :: r, l, h, hl => by
    by_cases hx : x = 0
    · subst hx
      have ne : r ≠ [] := fun z => by subst z; exact hl rfl
      obtain ⟨y, r', e⟩ : ∃ y r', r = y :: r' := by
        cases r with
        | nil => exact absurd rfl ne
        | cons y r' => exact ⟨y, r', rfl⟩
      have el : lst1 (l :: 0 :: r) = lst1 (l :: r) := by subst e; rfl
      rw [el] at hl ⊢
      have ih := vr_01 r l h hl
      rw [vr_cons]
      simp only [Int.mul_zero, Int.lt_irrefl, if_false, if_true, Nat.zero_add]
      exact ih
    · have el : lst1 (l :: x :: r) = lst1 (x :: r) := rfl
      rw [el] at hl ⊢
      have ih := vr_01 r x hx hl
      rw [vr_cons, if_neg hx]
      generalize lst1 (x :: r) = z at ih hl
      have sg : ∀ u v : Int, u * v < 0 ↔ (u < 0 ∧ 0 < v) ∨ (0 < u ∧ v < 0) := fun _ _ => mul_neg_iff
      have sp : ∀ u v : Int, 0 < u * v → (0 < u ∧ 0 < v) ∨ (u < 0 ∧ v < 0) := fun u v q => by
        rcases Int.lt_trichotomy u 0 with a | a | a
        · rcases Int.lt_trichotomy v 0 with b | b | b
          · exact Or.inr ⟨a, b⟩
          · subst b; simp at q
          · have := Int.mul_neg_of_neg_of_pos a b; omega
        · subst a; simp at q
        · rcases Int.lt_trichotomy v 0 with b | b | b
          · have := Int.mul_neg_of_pos_of_neg a b; omega
          · subst b; simp at q
          · exact Or.inl ⟨a, b⟩
      by_cases c : l * x < 0
      · rw [if_pos c]
        refine ⟨fun q => by omega, fun q => ?_⟩
        have := sp _ _ (ih.1 (by omega))
        rw [sg] at c ⊢
        omega
      · rw [if_neg c, Nat.zero_add]
        have c2 : (0 < l ∧ 0 < x) ∨ (l < 0 ∧ x < 0) := by rw [sg] at c; omega
        refine ⟨fun q => ?_, fun q => ?_⟩
        · have := sp _ _ (ih.1 q)
          rcases c2 with c2 | c2
          · exact Int.mul_pos c2.1 (by omega)
          · exact Int.mul_pos_of_neg_of_neg c2.1 (by omega)
        · have := (sg _ _).1 (ih.2 q)
          rw [sg]; omega
theorem vr_1 : ∀ r : List Int, vr 0 r = 1 → lst1 r ≠ 0 → fnz r * lst1 r < 0
  | [], h, _ => by simp [vr] at h
  | x :: r, h, hl => by
    by_cases hx : x = 0
    · subst hx
      rw [vr_cons] at h
      simp only [Int.mul_zero, Int.lt_irrefl, if_false, if_true, Nat.zero_add] at h
      cases r with
      | nil => exact absurd rfl hl
      | cons y r =>
        have := vr_1 (y :: r) h hl
        show (if (0 : Int) = 0 then fnz (y :: r) else 0) * lst1 (y :: r) < 0
        rw [if_pos rfl]; exact this
    · show (if x = 0 then fnz r else x) * _ < 0
      rw [if_neg hx]
      rw [vr_cons, if_neg hx, Int.zero_mul, if_neg (by omega), Nat.zero_add] at h
      exact (vr_01 r x hx hl).2 h
/-- near 0 a polynomial has the sign of its first factor that is not 0 -/
theorem near_fnz : ∀ r : List Int, fnz r ≠ 0 → ∃ e : Rat, 0 < e ∧ ∀ t : Rat, 0 < t → t < e → 0 < (fnz r : Rat) * pev r t
  | [], h => absurd rfl h
  | x :: r, h => by
    by_cases hx : x = 0
    · subst hx
      have e0 : fnz (0 :: r) = fnz r := if_pos rfl
      rw [e0] at h ⊢
      obtain ⟨e, he, hh⟩ := near_fnz r h
      refine ⟨e, he, fun t t0 te => ?_⟩
      have := hh t t0 te
      rw [pev_c, rat_i0, show (fnz r : Rat) * (0 + t * pev r t) = t * (fnz r * pev r t) by grind]
      exact Rat.mul_pos t0 this
    · have e0 : fnz (x :: r) = x := if_neg hx
      rw [e0]
      have bd : ∀ r : List Int, ∃ B : Rat, 0 ≤ B ∧ ∀ t : Rat, 0 ≤ t → t ≤ 1 → pev r t ≤ B ∧ -B ≤ pev r t := by
        intro r
        induction r with
        | nil => exact ⟨0, by grind, fun t _ _ => ⟨by show (0 : Rat) ≤ 0; grind, by show -0 ≤ (0 : Rat); grind⟩⟩
        | cons a p ih =>
          obtain ⟨B, B0, hB⟩ := ih
          obtain ⟨A, A0, hA⟩ : ∃ A : Rat, 0 ≤ A ∧ ((a : Rat) ≤ A ∧ -A ≤ a) := by
            by_cases c : (0 : Rat) ≤ a
            · exact ⟨a, c, by grind, by grind⟩
            · exact ⟨-a, by grind, by grind, by grind⟩
          refine ⟨A + B, by grind, fun t t0 t1 => ?_⟩
          have hb := hB t t0 t1
          rw [pev_c]
          have u1 : t * pev p t ≤ t * B := Rat.mul_le_mul_of_nonneg_left hb.1 t0
          have u2 : t * B ≤ 1 * B := Rat.mul_le_mul_of_nonneg_right t1 B0
          have u3 : t * (-B) ≤ t * pev p t := Rat.mul_le_mul_of_nonneg_left hb.2 t0
          constructor <;> grind
      obtain ⟨B, B0, hB⟩ := bd r
      refine ⟨1 / (B + 2), ?_, fun t t0 te => ?_⟩
      · rw [Rat.div_def, Rat.one_mul]; exact Rat.inv_pos.2 (by grind)
      · have tb : t * (B + 2) < 1 := by
          have := (Rat.lt_div_iff (show (0 : Rat) < B + 2 by grind)).1 te
          exact this
        have t1 : t ≤ 1 := by
          have : t * 2 ≤ t * (B + 2) := Rat.mul_le_mul_of_nonneg_left (by grind) (by grind)
          grind
        have hb := hB t (by grind) t1
        have u1 : t * pev r t ≤ t * B := Rat.mul_le_mul_of_nonneg_left hb.1 (by grind)
        have u3 : t * (-B) ≤ t * pev r t := Rat.mul_le_mul_of_nonneg_left hb.2 (by grind)
        rw [pev_c]
        rcases Int.lt_or_gt_of_ne hx with q | q
        · have : (x : Rat) ≤ -1 := by
            have : (x : Rat) ≤ ((-1 : Int) : Rat) := Rat.intCast_le_intCast.2 (by omega)
            exact this
          have s : (x : Rat) + t * pev r t < 0 := by grind
          have := Rat.mul_pos (show (0 : Rat) < -x by grind) (show (0 : Rat) < -((x : Rat) + t * pev r t) by grind)
          grind
        · have : (1 : Rat) ≤ x := by
            have : ((1 : Int) : Rat) ≤ x := Rat.intCast_le_intCast.2 (by omega)
            exact this
          exact Rat.mul_pos (by grind) (by grind)
