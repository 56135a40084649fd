/-! NO TWO CHANGES OF SIGN on an interval of 2 ^ -256 -/
theorem smq_rb : ∀ {n : Nat} {f b : Nat → Rat}, (∀ k, k < n → rb (f k) (b k)) → rb (smq n f) (smq n b)
  | 0, _, _, _ => ⟨by show -(0 : Rat) ≤ 0; decide, Rat.le_refl⟩
  | n + 1, f, b, h => rb_add (smq_rb (n := n) (f := f) (b := b) (fun k hk => h k (by omega))) (h n (by omega))
theorem d2_bd {P : List Int} {H : Nat} {l : Rat} (hP : pdb P 9) (hH : pab P H) (hl : rb l 1) : rb (pev (pdl (pdl P)) l) (168 * (H : Rat)) := by
  have p7 : pdb (pdl (pdl P)) 7 := fun k hk => by rw [pdl_gt, pdl_gt, hP (k + 1 + 1) (by omega), Int.zero_mul, Int.zero_mul]
  rw [← pdb_ev p7, pev_smq]
  have r := smq_rb (n := 7) (f := fun i => l ^ i * ((pgt (pdl (pdl P)) i : Int) : Rat)) (b := fun i => (H : Rat) * (((i + 1) * (i + 2) : Nat) : Rat)) (fun k hk => by
    have a := rb_mul (rb_pow1 hl k) (rb_int (pgt (pdl (pdl P)) k))
    refine rb_mono a ?_
    rw [Rat.one_mul, ← Rat.natCast_mul]
    refine rat_le ?_
    rw [pdl_gt, pdl_gt, Int.natAbs_mul, Int.natAbs_mul]
    have e1 : ((k : Int) + 1).natAbs = k + 1 := by omega
    have e2 : (((k + 1 : Nat) : Int) + 1).natAbs = k + 2 := by omega
    rw [e1, e2, Nat.mul_assoc, Nat.mul_comm (k + 2)]
    exact Nat.mul_le_mul_right _ (hH _))
  rw [smq_nat (H : Rat) (fun i => (i + 1) * (i + 2)) 7] at r
  rw [show ((sn 7 (fun i => (i + 1) * (i + 2)) : Nat) : Rat) = 168 from rfl, Rat.mul_comm] at r
  exact r
theorem near_mk {P : List Int} {H : Nat} {l w A s : Rat} (w0 : 0 < w) (w1 : w ≤ 1) (s1 : 1 ≤ s) (sw : 4096 * s * s * w ≤ 1) (H1 : 1 ≤ H) (A0 : 0 ≤ A) (A1 : A ≤ 168 * (H : Rat)) (hA : pev (pdl (pdl P)) l = A ∨ pev (pdl (pdl P)) l = -A) (h0 : rb (pev (pdl P) l) (17 / 16 * (w * A) + s * (w * w * (H : Rat)))) (ha : rb (pev P l) (7 / 4 * (w * w * A) + s * (w * w * w * (H : Rat)))) : nearP P H l w := by
  have Hp : (0 : Rat) < (H : Rat) := Rat.natCast_pos.2 (by omega)
  have wH : 0 < w * (H : Rat) := Rat.mul_pos w0 Hp
  have swH : 0 < s * (w * (H : Rat)) := Rat.mul_pos (by grind) wH
  have rA : rb (pev (pdl (pdl P)) l) A := by rcases hA with q | q <;> rw [q] <;> constructor <;> grind
  by_cases c : 32 * (s * (w * (H : Rat))) ≤ A
  · left
    have c1 := Rat.mul_le_mul_of_nonneg_left c (Rat.le_of_lt w0)
    have c2 := Rat.mul_le_mul_of_nonneg_left c1 (Rat.le_of_lt w0)
    have x1 : w * (32 * (s * (w * (H : Rat)))) = 32 * (s * (w * w * (H : Rat))) := by generalize (H : Rat) = h; grind
    have x2 : w * (w * (32 * (s * (w * (H : Rat))))) = 32 * (s * (w * w * w * (H : Rat))) := by generalize (H : Rat) = h; grind
    have wA : 0 ≤ w * A := Rat.mul_nonneg (Rat.le_of_lt w0) A0
    have wwA : 0 ≤ w * (w * A) := Rat.mul_nonneg (Rat.le_of_lt w0) wA
    rw [x1] at c1
    rw [x2] at c2
    refine ⟨A, by grind, A1, hA, rb_mono h0 (by grind), rb_mono ha ?_⟩
    have e : w * w * A = w * (w * A) := by grind
    rw [e]
    grind
  · right
    have c' : A ≤ 32 * (s * (w * (H : Rat))) := Rat.le_of_lt (Rat.not_le.1 c)
    have c1 := Rat.mul_le_mul_of_nonneg_left c' (Rat.le_of_lt w0)
    have c2 := Rat.mul_le_mul_of_nonneg_left c1 (Rat.le_of_lt w0)
    have x1 : w * (32 * (s * (w * (H : Rat)))) = 32 * (s * (w * w * (H : Rat))) := by generalize (H : Rat) = h; grind
    have x2 : w * (w * (32 * (s * (w * (H : Rat))))) = 32 * (s * (w * w * w * (H : Rat))) := by generalize (H : Rat) = h; grind
    have y0 : 0 ≤ s * (w * w * (H : Rat)) := Rat.mul_nonneg (by grind) (Rat.mul_nonneg (Rat.mul_nonneg (Rat.le_of_lt w0) (Rat.le_of_lt w0)) (Rat.le_of_lt Hp))
    have y1 := Rat.mul_le_mul_of_nonneg_right w1 y0
    have x3 : w * (s * (w * w * (H : Rat))) = s * (w * w * w * (H : Rat)) := by generalize (H : Rat) = h; grind
    rw [x3] at y1
    rw [x1] at c1
    rw [x2] at c2
    have z1 : 64 * s * w * (H : Rat) = 64 * (s * (w * (H : Rat))) := by generalize (H : Rat) = h; grind
    have z2 : 64 * s * w * w * (H : Rat) = 64 * (s * (w * w * (H : Rat))) := by generalize (H : Rat) = h; grind
    have e : w * w * A = w * (w * A) := by grind
    refine ⟨64 * s, by grind, by grind, ?_, ?_, ?_⟩
    · rw [z1]; exact rb_mono rA (by grind)
    · rw [z2]; exact rb_mono h0 (by grind)
    · rw [z2]
      refine rb_mono ha ?_
      rw [e]
      grind
theorem pw1 : ∀ k : Nat, (1 : Rat) ^ k = 1
  | 0 => by grind
  | k + 1 => by rw [Rat.pow_succ, pw1 k, Rat.mul_one]
/-- the place is within -1 .. 1 -/
theorem near_small {P : List Int} {m H : Nat} {l w A c s : Rat} (m7 : m ≤ 7) (hP : pdb P (m + 2)) (hH : pab P H) (H1 : 1 ≤ H) (hl : rb l 1) (w0 : 0 < w) (w1 : w * 1000000 ≤ 1) (s1 : 36893488147419103232 ≤ s) (sw : 4096 * s * s * w ≤ 1) (A0 : 0 ≤ A) (hc : c = 134217728 * (H : Rat) * 1 ^ (m + 1 - 3)) (hA : pev (pdl (pdl P)) l = A ∨ pev (pdl (pdl P)) l = -A) (h0 : rb (pev (pdl P) l) (w * A + 33 * (w * w * c))) (ha : rb (pev P l) (3 / 2 * (w * w * A) + 40 * (w * w * w * c))) : nearP P H l w := by
  rw [pw1, Rat.mul_one] at hc
  have ww : 0 ≤ w * w := Rat.mul_nonneg (Rat.le_of_lt w0) (Rat.le_of_lt w0)
  have wA : 0 ≤ w * A := Rat.mul_nonneg (Rat.le_of_lt w0) A0
  have wwA : 0 ≤ w * w * A := Rat.mul_nonneg ww A0
  have t0 : 0 ≤ w * w * (H : Rat) := Rat.mul_nonneg ww (rat_nn H)
  have t1 : 0 ≤ w * w * w * (H : Rat) := Rat.mul_nonneg (Rat.mul_nonneg ww (Rat.le_of_lt w0)) (rat_nn H)
  have s2 := Rat.mul_le_mul_of_nonneg_right s1 t0
  have s3 := Rat.mul_le_mul_of_nonneg_right s1 t1
  have b2 := d2_bd (pdb_mono hP (by omega)) hH hl
  have A1 : A ≤ 168 * (H : Rat) := by
    obtain ⟨u, v⟩ := b2
    rcases hA with q | q <;> rw [q] at u v <;> grind
  have e1 : w * w * c = 134217728 * (w * w * (H : Rat)) := by rw [hc]; generalize (H : Rat) = h; grind
  have e2 : w * w * w * c = 134217728 * (w * w * w * (H : Rat)) := by rw [hc]; generalize (H : Rat) = h; grind
  rw [e1] at h0
  rw [e2] at ha
  exact near_mk w0 (by grind) (by grind) sw H1 A0 A1 hA (rb_mono h0 (by grind)) (rb_mono ha (by grind))
theorem lg_1 {w Ap App e2 e3 : Rat} (w0 : 0 < w) (w1 : w * 1000000 ≤ 1) (p0 : 0 ≤ Ap) (q0 : 0 ≤ App) (e20 : 0 ≤ e2) (e32 : e3 * 1000000 ≤ e2) (h : Ap ≤ App + (14 * (w * Ap + 33 * e2) + 56 * (3 / 2 * (w * w * Ap) + 40 * e3))) : Ap ≤ 1001 / 1000 * App + 464 * e2 := by
  have t1 : w * Ap * 1000000 ≤ Ap := by
    have := Rat.mul_le_mul_of_nonneg_right w1 p0
    grind
  have wp : 0 ≤ w * Ap := Rat.mul_nonneg (Rat.le_of_lt w0) p0
  have t2 : w * w * Ap * 1000000 ≤ w * Ap := by
    have := Rat.mul_le_mul_of_nonneg_right w1 wp
    grind
  generalize w * Ap = a at t1 t2 wp h
  generalize w * w * Ap = b at t2 h
  grind
theorem lg_2 {w Ap App e2 e3 : Rat} (w0 : 0 < w) (w1 : w * 1000000 ≤ 1) (p0 : 0 ≤ Ap) (q0 : 0 ≤ App) (e20 : 0 ≤ e2) (e32 : e3 * 1000000 ≤ e2) (h : Ap ≤ 1001 / 1000 * App + 464 * e2) : 8 * (3 / 2 * (w * w * Ap) + 40 * e3) + (w * Ap + 33 * e2) ≤ 17 / 16 * (w * App) + 35 * e2 := by
  have wp : 0 ≤ w * Ap := Rat.mul_nonneg (Rat.le_of_lt w0) p0
  have t2 : w * w * Ap * 1000000 ≤ w * Ap := by
    have := Rat.mul_le_mul_of_nonneg_right w1 wp
    grind
  have t3 := Rat.mul_le_mul_of_nonneg_left h (Rat.le_of_lt w0)
  have t4 : w * e2 * 1000000 ≤ e2 := by
    have := Rat.mul_le_mul_of_nonneg_right w1 e20
    grind
  have e : w * (1001 / 1000 * App + 464 * e2) = 1001 / 1000 * (w * App) + 464 * (w * e2) := by grind
  rw [e] at t3
  have wq : 0 ≤ w * App := Rat.mul_nonneg (Rat.le_of_lt w0) q0
  generalize w * w * Ap = b at t2 ⊢
  generalize w * Ap = a at t2 t3 wp ⊢
  generalize w * App = c at t3 wq ⊢
  generalize w * e2 = d at t3 t4
  grind
theorem lg_3 {w Ap App e2 e3 : Rat} (w0 : 0 < w) (w1 : w * 1000000 ≤ 1) (q0 : 0 ≤ App) (e20 : 0 ≤ e2) (e3e : e3 = w * e2) (h : Ap ≤ 1001 / 1000 * App + 464 * e2) : 3 / 2 * (w * w * Ap) + 40 * e3 ≤ 7 / 4 * (w * w * App) + 41 * e3 := by
  have ww : 0 ≤ w * w := Rat.mul_nonneg (Rat.le_of_lt w0) (Rat.le_of_lt w0)
  have e30 : 0 ≤ e3 := by rw [e3e]; exact Rat.mul_nonneg (Rat.le_of_lt w0) e20
  have t3 := Rat.mul_le_mul_of_nonneg_left h ww
  have t4 : w * e3 * 1000000 ≤ e3 := by
    have := Rat.mul_le_mul_of_nonneg_right w1 e30
    grind
  have e : w * w * (1001 / 1000 * App + 464 * e2) = 1001 / 1000 * (w * w * App) + 464 * (w * e3) := by rw [e3e]; grind
  rw [e] at t3
  have wq : 0 ≤ w * w * App := Rat.mul_nonneg ww q0
  generalize w * w * Ap = a at t3 ⊢
  generalize w * w * App = b at t3 wq ⊢
  generalize w * e3 = d at t3 t4
  grind
theorem pw_sg {l X : Rat} (h : l = X ∨ l = -X) : ∀ n : Nat, l ^ n = X ^ n ∨ l ^ n = -(X ^ n)
  | 0 => Or.inl (by rw [show l ^ 0 = 1 by grind, show X ^ 0 = 1 by grind])
  | n + 1 => by
    rw [Rat.pow_succ, Rat.pow_succ]
    rcases pw_sg h n with q | q <;> rcases h with p | p <;> rw [q, p]
    · exact Or.inl rfl
    · right; grind
    · right; grind
    · left; grind
theorem pw_inv {X T : Rat} (h : T * X = 1) : ∀ n : Nat, T ^ n * X ^ n = 1
  | 0 => by rw [show T ^ 0 = 1 by grind, show X ^ 0 = 1 by grind, Rat.mul_one]
  | n + 1 => by
    have ih := pw_inv h n
    rw [Rat.pow_succ, Rat.pow_succ]
    have e : T ^ n * T * (X ^ n * X) = (T ^ n * X ^ n) * (T * X) := by
      generalize T ^ n = a
      generalize X ^ n = b
      grind
    rw [e, ih, h, Rat.mul_one]
/-- the place is beyond: the polynomial turned round -/
theorem near_large {P : List Int} {m H : Nat} {l w X A c s : Rat} (m1 : 1 ≤ m) (m7 : m ≤ 7) (hP : pdb P (m + 2)) (hH : pab P H) (H1 : 1 ≤ H) (X1 : 1 ≤ X) (X2 : X ≤ 2147483648) (hl : l = X ∨ l = -X) (w0 : 0 < w) (w1 : w * 1000000 ≤ 1) (s1 : 36893488147419103232 ≤ s) (sw : 4096 * s * s * w ≤ 1) (A0 : 0 ≤ A) (hc : c = 134217728 * (H : Rat) * X ^ (m + 1 - 3)) (hA : pev (pdl (pdl P)) l = A ∨ pev (pdl (pdl P)) l = -A) (h0 : rb (pev (pdl P) l) (w * A + 33 * (w * w * c))) (ha : rb (pev P l) (3 / 2 * (w * w * A) + 40 * (w * w * w * c))) : rb (1 / l) 1 ∧ nearP (rvl (m + 1) P) H (1 / l) w := by
  obtain ⟨n, hn⟩ : ∃ n, m = n + 1 := ⟨m - 1, by omega⟩
  have Xp : 0 < X := by grind
  have ln : l ≠ 0 := by rcases hl with q | q <;> rw [q] <;> grind
  obtain ⟨T, hT⟩ : ∃ T, T = 1 / X := ⟨_, rfl⟩
  have TX : T * X = 1 := by rw [hT]; exact Rat.div_mul_cancel (by grind)
  obtain ⟨t, ht⟩ : ∃ t, t = 1 / l := ⟨_, rfl⟩
  have tl : t * l = 1 := by rw [ht]; exact Rat.div_mul_cancel ln
  have tn : t ≠ 0 := fun z => by rw [z, Rat.zero_mul] at tl; exact absurd tl (by decide)
  have it : 1 / t = l := by rw [ht]; grind
  have Tp : 0 < T := by
    refine Rat.not_le.1 fun q => ?_
    have := Rat.mul_le_mul_of_nonneg_right q (Rat.le_of_lt Xp)
    grind
  have T1 : T ≤ 1 := by
    have := Rat.mul_le_mul_of_nonneg_left X1 (Rat.le_of_lt Tp)
    grind
  have hts : t = T ∨ t = -T := by
    rcases hl with q | q
    · left
      have : (t - T) * X = 0 := by rw [q] at tl; grind
      rcases Rat.mul_eq_zero.1 this with z | z <;> grind
    · right
      have : (t + T) * X = 0 := by rw [q] at tl; grind
      rcases Rat.mul_eq_zero.1 this with z | z <;> grind
  have rt1 : rb t 1 := by rcases hts with q | q <;> rw [q] <;> constructor <;> grind
  rw [← ht]
  refine ⟨rt1, ?_⟩
  obtain ⟨U, hU⟩ : ∃ U, U = T ^ n := ⟨_, rfl⟩
  have Up : 0 < U := by rw [hU]; exact Rat.pow_pos Tp
  have UX : U * X ^ n = 1 := by rw [hU]; exact pw_inv TX n
  obtain ⟨u, hu⟩ : ∃ u, u = t ^ n := ⟨_, rfl⟩
  have us : u = U ∨ u = -U := by rw [hu, hU]; exact pw_sg hts n
  have ru : rb u U := by rcases us with q | q <;> rw [q] <;> constructor <;> grind
  have rl : rb l X := by rcases hl with q | q <;> rw [q] <;> constructor <;> grind
  obtain ⟨Q, hQ⟩ : ∃ Q, Q = rvl (m + 1) P := ⟨_, rfl⟩
  obtain ⟨a0, ea⟩ : ∃ a0, a0 = pev P l := ⟨_, rfl⟩
  obtain ⟨f0, ef⟩ : ∃ f0, f0 = pev (pdl P) l := ⟨_, rfl⟩
  obtain ⟨f1, eg⟩ : ∃ f1, f1 = pev (pdl (pdl P)) l := ⟨_, rfl⟩
  -- the values of the turned one
  have q0 : pev Q t = t * t * (u * a0) := by
    rw [hQ, rvl_ev hP tn, it, ← ea, hn, Rat.pow_succ, Rat.pow_succ, ← hu]
    grind
  have q1 : pev (pdl Q) t = t * (((m : Rat) + 1) * (u * a0) - u * (l * f0)) := by
    rw [hQ, pev_eq (rvl_d hP), rvl_ev (gfx_pdb m P) tn, it, gfx_ev hP, ← ea, ← ef]
    have : t ^ m = u * t := by rw [hn, Rat.pow_succ, ← hu]
    rw [this]
    generalize (m : Rat) = M
    grind
  have q2 : pev (pdl (pdl Q)) t = u * (l * l * f1) + (-(2 * (m : Rat) * (u * (l * f0))) + (m : Rat) * ((m : Rat) + 1) * (u * a0)) := by
    have gp : pdb (gfx m P) (n + 2) := by
      have := gfx_pdb m P
      rw [show n + 2 = m + 1 by omega]
      exact this
    rw [hQ, pdl_co (rvl_d hP) t]
    have r : pev (pdl (rvl m (gfx m P))) t = pev (rvl n (gfx n (gfx m P))) t := by
      rw [show rvl m (gfx m P) = rvl (n + 1) (gfx m P) by rw [hn]]
      exact pev_eq (rvl_d gp) t
    rw [r, rvl_ev (gfx_pdb n (gfx m P)) tn, it, gfx_ev gp, gfx_ev hP, gfx_dv hP, ← ea, ← ef, ← eg, ← hu]
    have e : (n : Rat) + 1 = (m : Rat) := by rw [hn, rat_s]
    rw [e]
    generalize (m : Rat) = M
    grind
  -- how large they are
  obtain ⟨Ap, hAp⟩ : ∃ Ap, Ap = U * (X * X * A) := ⟨_, rfl⟩
  have Ap0 : 0 ≤ Ap := by rw [hAp]; exact Rat.mul_nonneg (Rat.le_of_lt Up) (Rat.mul_nonneg (Rat.mul_nonneg (Rat.le_of_lt Xp) (Rat.le_of_lt Xp)) A0)
  have H0 := rat_nn H
  obtain ⟨c5, h5⟩ : ∃ c5, c5 = 288230376151711744 * (H : Rat) := ⟨_, rfl⟩
  have c50 : 0 ≤ c5 := by rw [h5]; exact Rat.mul_nonneg (by grind) H0
  have c0 : 0 ≤ c := by rw [hc]; exact Rat.mul_nonneg (Rat.mul_nonneg (by grind) H0) (Rat.pow_nonneg (Rat.le_of_lt Xp))
  have UXc : U * (X * c) ≤ c5 := by
    by_cases k1 : n = 0
    · have e1 : U = 1 := by rw [hU, k1]; grind
      have e2 : c = 134217728 * (H : Rat) := by
        rw [hc, show m + 1 - 3 = 0 by omega, show X ^ 0 = 1 by grind, Rat.mul_one]
      rw [e1, e2, h5, Rat.one_mul]
      have := Rat.mul_le_mul_of_nonneg_right X2 H0
      grind
    · have e2 : X * X ^ (m + 1 - 3) = X ^ n := by
        obtain ⟨k, hk⟩ : ∃ k, n = k + 1 := ⟨n - 1, by omega⟩
        rw [show m + 1 - 3 = k by omega, hk, Rat.pow_succ, Rat.mul_comm]
      have e3 : U * (X * c) = 134217728 * (H : Rat) * (U * (X * X ^ (m + 1 - 3))) := by
        rw [hc]
        generalize X ^ (m + 1 - 3) = Y
        generalize (H : Rat) = h
        grind
      rw [e3, e2, UX, h5, Rat.mul_one]
      grind
  have Uc : U * c ≤ c5 := by
    have a : 1 * c ≤ X * c := Rat.mul_le_mul_of_nonneg_right X1 c0
    have b := Rat.mul_le_mul_of_nonneg_left a (Rat.le_of_lt Up)
    grind
  have UXA : U * (X * A) ≤ Ap := by
    have xa : 0 ≤ X * A := Rat.mul_nonneg (Rat.le_of_lt Xp) A0
    have a := Rat.mul_le_mul_of_nonneg_right X1 xa
    have b := Rat.mul_le_mul_of_nonneg_left a (Rat.le_of_lt Up)
    rw [hAp]
    grind
  have UA : U * A ≤ Ap := by
    have a := Rat.mul_le_mul_of_nonneg_right X1 A0
    have b := Rat.mul_le_mul_of_nonneg_left a (Rat.le_of_lt Up)
    grind
  have ww : 0 ≤ w * w := Rat.mul_nonneg (Rat.le_of_lt w0) (Rat.le_of_lt w0)
  have www : 0 ≤ w * w * w := Rat.mul_nonneg ww (Rat.le_of_lt w0)
  obtain ⟨e2, he2⟩ : ∃ e2, e2 = w * w * c5 := ⟨_, rfl⟩
  obtain ⟨e3, he3⟩ : ∃ e3, e3 = w * e2 := ⟨_, rfl⟩
  have e20 : 0 ≤ e2 := by rw [he2]; exact Rat.mul_nonneg ww c50
  have e30 : 0 ≤ e3 := by rw [he3]; exact Rat.mul_nonneg (Rat.le_of_lt w0) e20
  have e32 : e3 * 1000000 ≤ e2 := by
    have := Rat.mul_le_mul_of_nonneg_right w1 e20
    rw [he3]
    grind
  rw [← ef] at h0
  rw [← ea] at ha
  rw [← eg] at hA
  have BF : rb (u * (l * f0)) (w * Ap + 33 * e2) := by
    refine rb_mono (rb_mul ru (rb_mul rl h0)) ?_
    have a := Rat.mul_le_mul_of_nonneg_left UXA (Rat.le_of_lt w0)
    have b := Rat.mul_le_mul_of_nonneg_left UXc ww
    have e : U * (X * (w * A + 33 * (w * w * c))) = w * (U * (X * A)) + 33 * (w * w * (U * (X * c))) := by grind
    rw [e, he2]
    grind
  have BA : rb (u * a0) (3 / 2 * (w * w * Ap) + 40 * e3) := by
    refine rb_mono (rb_mul ru ha) ?_
    have a := Rat.mul_le_mul_of_nonneg_left UA ww
    have b := Rat.mul_le_mul_of_nonneg_left Uc www
    have e : U * (3 / 2 * (w * w * A) + 40 * (w * w * w * c)) = 3 / 2 * (w * w * (U * A)) + 40 * (w * w * w * (U * c)) := by grind
    have e' : e3 = w * w * w * c5 := by rw [he3, he2]; grind
    rw [e, e']
    grind
  have F1s : u * (l * l * f1) = Ap ∨ u * (l * l * f1) = -Ap := by
    have ll : l * l = X * X := by rcases hl with q | q <;> rw [q] <;> grind
    rw [ll, hAp]
    rcases us with q | q <;> rcases hA with p | p <;> rw [q, p]
    · left; grind
    · right; grind
    · right; grind
    · left; grind
  have hm7 : rb (m : Rat) 7 := by
    have a := rat_nn m
    have b : (m : Rat) ≤ ((7 : Nat) : Rat) := rat_le m7
    have c : ((7 : Nat) : Rat) = 7 := rfl
    rw [c] at b
    constructor <;> grind
  have hm8 : rb ((m : Rat) + 1) 8 := by
    obtain ⟨a, b⟩ := hm7
    constructor <;> grind
  have hm14 : rb (2 * (m : Rat)) 14 := by
    obtain ⟨a, b⟩ := hm7
    constructor <;> grind
  have BR : rb (-(2 * (m : Rat) * (u * (l * f0))) + (m : Rat) * ((m : Rat) + 1) * (u * a0)) (14 * (w * Ap + 33 * e2) + 7 * 8 * (3 / 2 * (w * w * Ap) + 40 * e3)) := rb_add (rb_neg (rb_mul hm14 BF)) (rb_mul (rb_mul hm7 hm8) BA)
  obtain ⟨App, q00, hq⟩ := abs_ex (pev (pdl (pdl Q)) t)
  have L1 : Ap ≤ 1001 / 1000 * App + 464 * e2 := by
    refine lg_1 w0 w1 Ap0 q00 e20 e32 ?_
    rw [q2] at hq
    generalize u * (l * l * f1) = F at F1s hq
    generalize -(2 * (m : Rat) * (u * (l * f0))) + (m : Rat) * ((m : Rat) + 1) * (u * a0) = R at BR hq
    obtain ⟨r1, r2⟩ := BR
    rcases F1s with x | x <;> rcases hq with y | y <;> rw [x] at y <;> grind
  have L2 := lg_2 w0 w1 Ap0 q00 e20 e32 L1
  have L3 := lg_3 w0 w1 q00 e20 he3 L1
  have b2 := d2_bd (P := Q) (H := H) (l := t) (by rw [hQ]; exact pdb_mono (rvl_pdb (m + 1) P) (by omega)) (by rw [hQ]; exact rvl_ab hH) rt1
  have A1 : App ≤ 168 * (H : Rat) := by
    obtain ⟨x, y⟩ := b2
    rcases hq with q | q <;> rw [q] at x y <;> grind
  have t0 : 0 ≤ w * w * (H : Rat) := Rat.mul_nonneg ww H0
  have t1 : 0 ≤ w * w * w * (H : Rat) := Rat.mul_nonneg www H0
  have s2 := Rat.mul_le_mul_of_nonneg_right s1 t0
  have s3 := Rat.mul_le_mul_of_nonneg_right s1 t1
  have ee2 : e2 = 288230376151711744 * (w * w * (H : Rat)) := by rw [he2, h5]; generalize (H : Rat) = h; grind
  have ee3 : e3 = 288230376151711744 * (w * w * w * (H : Rat)) := by rw [he3, ee2]; generalize (H : Rat) = h; grind
  rw [← hQ]
  refine near_mk w0 (by grind) (by grind) sw H1 q00 A1 hq ?_ ?_
  · rw [q1]
    have r : rb (t * (((m : Rat) + 1) * (u * a0) - u * (l * f0))) (1 * (8 * (3 / 2 * (w * w * Ap) + 40 * e3) + (w * Ap + 33 * e2))) := by
      rw [Rat.sub_eq_add_neg]
      exact rb_mul rt1 (rb_add (rb_mul hm8 BA) (rb_neg BF))
    refine rb_mono r ?_
    rw [Rat.one_mul]
    refine Rat.le_trans L2 ?_
    rw [ee2]
    grind
  · rw [q0]
    have r : rb (t * t * (u * a0)) (1 * 1 * (3 / 2 * (w * w * Ap) + 40 * e3)) := rb_mul (rb_mul rt1 rt1) BA
    refine rb_mono r ?_
    rw [Rat.one_mul, Rat.one_mul]
    refine Rat.le_trans L3 ?_
    rw [ee3]
    grind
def w256 : Rat := 1 / 2 ^ 256
theorem w256_1 : w256 * 2 ^ 256 = 1 := Rat.div_mul_cancel (by have := q2p 256; grind)
theorem w256_p : 0 < w256 := by
  refine Rat.not_le.1 fun q => ?_
  have := Rat.mul_le_mul_of_nonneg_right q (Rat.le_of_lt (q2p 256))
  rw [w256_1, Rat.zero_mul] at this
  exact absurd this (by decide)
theorem w256_le {k : Nat} (h : k ≤ 2 ^ 256) : (k : Rat) * w256 ≤ 1 := by
  have a : (k : Rat) ≤ ((2 ^ 256 : Nat) : Rat) := rat_le h
  rw [Rat.natCast_pow] at a
  have b := Rat.mul_le_mul_of_nonneg_right a (Rat.le_of_lt w256_p)
  have c := w256_1
  rw [show ((2 : Nat) : Rat) = 2 from rfl, Rat.mul_comm (2 ^ 256), c] at b
  exact b
theorem w256_Z : w256 * w256 * ((2 ^ 256 * 2 ^ 256 : Nat) : Rat) ≤ 1 := by
  rw [Rat.natCast_mul, Rat.natCast_pow, show ((2 : Nat) : Rat) = 2 from rfl]
  have c := w256_1
  generalize (2 : Rat) ^ 256 = G at c ⊢
  generalize w256 = w at c ⊢
  have e : w * w * (G * G) = (w * G) * (w * G) := by grind
  rw [e, c]
  grind
theorem no_two {P row : List Int} {m H : Nat} {K l : Rat} (m1 : 1 ≤ m) (m7 : m ≤ 7) (hP : pdb P (m + 2)) (top : pgt P (m + 1) ≠ 0) (sq : sqf P) (hH : pab P H) (tab : tabP m H (2 ^ 256 * 2 ^ 256)) (hr : row.length = m + 2) (K0 : 0 < K) (e : ∀ y : Rat, pev row y = K * pev P (l + w256 * y)) (hl : rb l 2147483648) : pV row ≤ 1 := by
  refine Nat.not_lt.1 fun h2 => ?_
  have H1 : 1 ≤ H := by
    have := hH (m + 1)
    omega
  have w1 : w256 * 1000000 ≤ 1 := by
    have := w256_le (k := 1000000) (by decide)
    rw [Rat.mul_comm]
    exact this
  have wle : w256 ≤ 1 := by
    have := w256_p
    grind
  obtain ⟨s, hs⟩ : ∃ s : Rat, s = 36893488147419103232 := ⟨_, rfl⟩
  have sw : 4096 * s * s * w256 ≤ 1 := by
    have := w256_le (k := 4096 * 36893488147419103232 * 36893488147419103232) (by decide)
    rw [hs]
    rw [Rat.natCast_mul, Rat.natCast_mul] at this
    exact this
  have s1 : 36893488147419103232 ≤ s := by rw [hs]; exact Rat.le_refl
  have inj := injF_P hP top sq
  by_cases c : rb l 1
  · obtain ⟨A, c9, A0, hc, hA, h0, ha⟩ := row_near (X := 1) hr (by omega) (by omega) hP hH K0 w256_p wle e Rat.le_refl c h2
    exact sep_pt m1 m7 hP hH tab inj c w256_p w1 w256_Z (near_small m7 hP hH H1 c w256_p w1 s1 sw A0 hc hA h0 ha)
  · obtain ⟨X, X0, hX⟩ := abs_ex l
    have X1 : 1 ≤ X := Rat.not_lt.1 fun q => c (by rcases hX with z | z <;> rw [z] <;> constructor <;> grind)
    have X2 : X ≤ 2147483648 := by
      obtain ⟨a, b⟩ := hl
      rcases hX with z | z <;> rw [z] at a b <;> grind
    have rX : rb l X := by rcases hX with z | z <;> rw [z] <;> constructor <;> grind
    obtain ⟨A, c9, A0, hc, hA, h0, ha⟩ := row_near hr (by omega) (by omega) hP hH K0 w256_p wle e X1 rX h2
    obtain ⟨r1, nr9⟩ := near_large m1 m7 hP hH H1 X1 X2 hX w256_p w1 s1 sw A0 hc hA h0 ha
    exact sep_pt m1 m7 (rvl_pdb (m + 1) P) (rvl_ab hH) tab (injF_r m1 hP inj) r1 w256_p w1 w256_Z nr9
