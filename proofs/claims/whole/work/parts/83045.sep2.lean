/-! TWO COPRIME PIECES: they can't both be small at a place -/
theorem prk9_one (f : Nat → Rat) : ∀ k : Nat, prk9 (k + 1) f = f 0 * prk9 k (fun e => f (e + 1))
  | 0 => by show 1 * f 0 = f 0 * 1; grind
  | k + 1 => by
    have ih := prk9_one f k
    show prk9 (k + 1) f * f (k + 1) = f 0 * (prk9 k (fun e => f (e + 1)) * f (k + 1))
    rw [ih]; grind
theorem prk9_cst (c : Rat) : ∀ k : Nat, prk9 k (fun _ => c) = c ^ k
  | 0 => by show (1 : Rat) = c ^ 0; grind
  | k + 1 => by
    show prk9 k (fun _ => c) * c = c ^ (k + 1)
    rw [prk9_cst c k, Rat.pow_succ]
def cz2 (b : Nat) (l f0 g0 : Rat) (i : Nat) : Rat := if i < b then l ^ i * f0 else l ^ (i - b) * g0
theorem cz2_sum (a b : Nat) (l f0 g0 : Rat) (z : Nat → Int) : smq (b + a) (fun i => cz2 b l f0 g0 i * (z i : Rat)) = pev (pmk b z) l * f0 + pev (pmk a (fun j => z (b + j))) l * g0 := by
  have e1 : smq b (fun i => cz2 b l f0 g0 i * (z i : Rat)) = f0 * smq b (fun i => l ^ i * (z i : Rat)) := by
    rw [← smq_sc f0 b (fun i => l ^ i * (z i : Rat))]
    exact smq_co (fun k hk => by unfold cz2; rw [if_pos hk]; grind)
  have e2 : smq a (fun i => cz2 b l f0 g0 (b + i) * (z (b + i) : Rat)) = g0 * smq a (fun i => l ^ i * (z (b + i) : Rat)) := by
    rw [← smq_sc g0 a (fun i => l ^ i * (z (b + i) : Rat))]
    exact smq_co (fun k hk => by unfold cz2; rw [if_neg (by omega), Nat.add_sub_cancel_left]; grind)
  rw [smq_two, e1, e2, pev_smq, pev_smq]
  grind
def cf2 (A B : List Int) (b : Nat) (l : Rat) : Nat → Nat → Rat
  | 0, i => cz2 b l (pev A l) (pev B l) i
  | e + 1, i => (rcf A B b (e + 1) i : Rat)
def bf2 (H : Nat) (x : Rat) : Nat → Nat → Rat
  | 0, _ => x
  | _ + 1, _ => (H : Rat)
def Rf2 (n H : Nat) (x : Rat) : Nat → Rat
  | 0 => (n : Rat) * x
  | _ + 1 => (n : Rat) * (H : Rat)
def inj2 (a b : Nat) (A B : List Int) : Prop := ∀ U V : List Int, pdb U b → pdb V a → (∀ x : Rat, pev U x * pev A x + pev V x * pev B x = 0) → (∀ k, pgt U k = 0) ∧ ∀ k, pgt V k = 0
theorem rcf_H {A B : List Int} {b H : Nat} (hA : pab A H) (hB : pab B H) (e i : Nat) : rb (rcf A B b e i : Rat) (H : Rat) := by
  refine rb_mono (rb_int _) (rat_le ?_)
  unfold rcf
  split
  · split
    · exact Nat.zero_le _
    · exact hA _
  · split
    · exact Nat.zero_le _
    · exact hB _
theorem cz2_rb {b : Nat} {l f0 g0 x : Rat} (hl : rb l 1) (h1 : rb f0 x) (h2 : rb g0 x) (i : Nat) : rb (cz2 b l f0 g0 i) x := by
  unfold cz2
  split
  · have := rb_mul (rb_pow1 hl i) h1
    rw [Rat.one_mul] at this
    exact this
  · have := rb_mul (rb_pow1 hl (i - b)) h2
    rw [Rat.one_mul] at this
    exact this
theorem sep2_core {a b H : Nat} {A B : List Int} {l x : Rat} (a1 : 1 ≤ a) (hA : pdb A (a + 1)) (hB : pdb B (b + 1)) (bA : pab A H) (bB : pab B H) (inj : inj2 a b A B) (hl : rb l 1) (xA : rb (pev A l) x) (xB : rb (pev B l) x) (hp : ((b + a : Nat) : Rat) * x * (((b + a : Nat) : Rat) * (H : Rat)) ^ (b + a - 1) < 1) : False := by
  have hp2 : prk9 (b + a) (Rf2 (b + a) H x) < 1 := by
    obtain ⟨k, hk⟩ : ∃ k, b + a = k + 1 := ⟨b + a - 1, by omega⟩
    have t := prk9_one (Rf2 (b + a) H x) k
    rw [show (fun e => Rf2 (b + a) H x (e + 1)) = (fun _ => ((b + a : Nat) : Rat) * (H : Rat)) from rfl, prk9_cst] at t
    rw [show prk9 (b + a) (Rf2 (b + a) H x) = prk9 (k + 1) (Rf2 (b + a) H x) by rw [← hk], t]
    rw [show b + a - 1 = k by omega] at hp
    exact hp
  obtain ⟨z, ⟨i0, i0n, zi⟩, hz⟩ := small_vec (n := b + a) (cf2 A B b l) (bf2 H x) (Rf2 (b + a) H x) (fun e k _ hk => by
    match e with
    | 0 => exact cz2_rb hl xA xB k
    | e + 1 => exact rcf_H bA bB (e + 1) k) (fun e _ => by
    match e with
    | 0 => exact rle_eq (smq_cst x (b + a))
    | e + 1 => exact rle_eq (smq_cst (H : Rat) (b + a))) hp2
  obtain ⟨W, hW⟩ : ∃ W : Nat → Int, ∀ e, W e = sm (b + a) (fun i => rcf A B b e i * z i) := ⟨_, fun _ => rfl⟩
  have W1 : ∀ e, e + 1 < b + a → W (e + 1) = 0 := fun e he => by
    have q := hz (e + 1) he
    have s : smq (b + a) (fun k => cf2 A B b l (e + 1) k * (z k : Rat)) = (W (e + 1) : Rat) := by
      rw [hW, ← smq_int]
      exact smq_co (fun k _ => (Rat.intCast_mul _ _).symm)
    rw [s] at q
    exact int_lt1 q.1 q.2
  have Whi : ∀ e, b + a ≤ e → W e = 0 := fun e he => by
    rw [hW]
    have q : sm (b + a) (fun i => rcf A B b e i * z i) = sm (b + a) (fun _ => 0) := sm_co (fun i hi => by
      have r0 : rcf A B b e i = 0 := by
        unfold rcf
        by_cases c : i < b
        · rw [if_pos c, if_neg (by omega)]
          exact hA _ (by omega)
        · rw [if_neg c, if_neg (by omega)]
          exact hB _ (by omega)
      rw [r0, Int.zero_mul])
    rw [q]
    have zz : ∀ n : Nat, sm n (fun _ => 0) = 0 := fun n => by
      induction n with
      | zero => rfl
      | succ n ih => show sm n (fun _ => 0) + 0 = 0; rw [ih]; rfl
    exact zz _
  obtain ⟨L, hL⟩ : ∃ L, L = pmk (b + a + A.length + B.length) W := ⟨_, rfl⟩
  have evL : ∀ t : Rat, pev L t = pev (pmk b z) t * pev A t + pev (pmk a (fun j => z (b + j))) t * pev B t := fun t => by
    have r := rcf_ev (A := A) (B := B) (m := b) (n := b + a + A.length + B.length) z t (b + a) (Nat.le_refl _)
    rw [show min (b + a) b = b by omega, show b + a - b = a by omega] at r
    rw [hL, ← r]
    exact congrArg (fun p => pev p t) (pmk_co (fun k _ => hW k))
  have gL : ∀ k, pgt L (k + 1) = 0 := fun k => by
    rw [hL, pmk_gt]
    split
    · by_cases c : k + 1 < b + a
      · exact W1 k c
      · exact Whi _ (by omega)
    · rfl
  have s0 : smq (b + a) (fun k => cf2 A B b l 0 k * (z k : Rat)) = (pgt L 0 : Rat) := by
    have q := cz2_sum a b l (pev A l) (pev B l) z
    rw [← evL, cst9_ev gL l] at q
    exact q
  have L0 : pgt L 0 = 0 := by
    have q := hz 0 (by omega)
    rw [s0] at q
    exact int_lt1 q.1 q.2
  have zz : ∀ t : Rat, pev (pmk b z) t * pev A t + pev (pmk a (fun j => z (b + j))) t * pev B t = 0 := fun t => by
    rw [← evL t, cst9_ev gL t, L0, rat_i0]
  obtain ⟨u0, w0⟩ := inj (pmk b z) (pmk a (fun j => z (b + j))) (by have := pdb_len (pmk b z); rw [pmk_len] at this; exact this) (by have := pdb_len (pmk a (fun j => z (b + j))); rw [pmk_len] at this; exact this) zz
  by_cases c : i0 < b
  · have q := u0 i0
    rw [pmk_gt, if_pos c] at q
    exact zi q
  · have q := w0 (i0 - b)
    rw [pmk_gt, if_pos (by omega), show b + (i0 - b) = i0 by omega] at q
    exact zi q
/-- coprime ones have no relation of small degree -/
theorem inj2_cop {a b : Nat} {A B : List Int} (hA : pdb A (a + 1)) (tA : pgt A a ≠ 0) (hB : pdb B (b + 1)) (tB : pgt B b ≠ 0) (h : cop A B) : inj2 a b A B := by
  intro U V hU hV e
  obtain ⟨c, u, v, c0, hc⟩ := h
  have one : ∀ {A B U V u v : List Int} {a : Nat}, pdb A (a + 1) → pgt A a ≠ 0 → pdb V a → (∀ x : Rat, (c : Rat) = pev u x * pev A x + pev v x * pev B x) → (∀ x : Rat, pev U x * pev A x + pev V x * pev B x = 0) → ∀ k, pgt V k = 0 := by
    intro A B U V u v a hA tA hV hc e k
    refine Classical.byContradiction fun nz => tA ?_
    refine dv_deg (A := A) (K := padd (pmul u V) (psm (-1) (pmul v U))) (F := psm c V) (n := a) (fun x => ?_) ⟨k, by rw [psm_gt]; exact Int.mul_ne_zero c0 nz⟩ (fun j hj => by rw [psm_gt, hV j hj, Int.mul_zero]) a (Nat.le_refl _)
    rw [psm_ev, padd_ev, m1_ev, pmul_ev, pmul_ev, hc x]
    have q := e x
    generalize pev U x = U' at q ⊢
    generalize pev V x = V' at q ⊢
    generalize pev A x = A' at q ⊢
    generalize pev B x = B' at q ⊢
    generalize pev u x = u' at q ⊢
    generalize pev v x = v' at q ⊢
    have w : v' * (U' * A' + V' * B') = 0 := by rw [q, Rat.mul_zero]
    grind
  refine ⟨one (A := B) (B := A) (U := V) (V := U) (u := v) (v := u) hB tB hU (fun x => by rw [hc x]; grind) (fun x => by have := e x; grind), one hA tA hV hc e⟩
/-- the same turned round -/
theorem inj2_r {a b : Nat} {A B : List Int} (a1 : 1 ≤ a) (b1 : 1 ≤ b) (hA : pdb A (a + 1)) (hB : pdb B (b + 1)) (h : inj2 a b A B) : inj2 a b (rvl a A) (rvl b B) := by
  intro U V hU hV hz
  obtain ⟨n, hn⟩ : ∃ n, b = n + 1 := ⟨b - 1, by omega⟩
  obtain ⟨m, hm⟩ : ∃ m, a = m + 1 := ⟨a - 1, by omega⟩
  have hU' : pdb U (n + 1) := by rw [← hn]; exact hU
  have hV' : pdb V (m + 1) := by rw [← hm]; exact hV
  have key : ∀ x : Rat, x ≠ 0 → pev (padd (pmul (rvl n U) A) (pmul (rvl m V) B)) x = 0 := fun x hx => by
    have q : (1 / x) * x = 1 := Rat.div_mul_cancel hx
    have ix : (1 / x : Rat) ≠ 0 := fun z => by
      rw [z, Rat.zero_mul] at q
      exact absurd q (by decide)
    have xx : (1 : Rat) / (1 / x) = x := by grind
    have e := hz (1 / x)
    rw [rvl_ev hA ix, rvl_ev hB ix, xx] at e
    rw [padd_ev, pmul_ev, pmul_ev, rvl_ev hU' hx, rvl_ev hV' hx]
    have ip : ∀ k : Nat, (1 / x : Rat) ^ k * x ^ k = 1 := fun k => by
      induction k with
      | zero => grind
      | succ k ih =>
        rw [Rat.pow_succ, Rat.pow_succ]
        generalize (1 / x : Rat) = y at q ih ⊢
        have : y ^ k * y * (x ^ k * x) = (y ^ k * x ^ k) * (y * x) := by grind
        rw [this, ih, q, Rat.mul_one]
    have ia := ip a
    have ib := ip b
    rw [hm, Rat.pow_succ, Rat.pow_succ] at ia
    rw [hn, Rat.pow_succ, Rat.pow_succ] at ib
    rw [hm, hn, Rat.pow_succ, Rat.pow_succ] at e
    generalize pev U (1 / x) = U' at e ⊢
    generalize pev V (1 / x) = V' at e ⊢
    generalize pev A x = A' at e ⊢
    generalize pev B x = B' at e ⊢
    generalize (1 / x : Rat) = y at *
    generalize y ^ m = ym at e ia
    generalize y ^ n = yn at e ib
    generalize x ^ m = xm at ia ⊢
    generalize x ^ n = xn at ib ⊢
    have w : (U' * (ym * y * A') + V' * (yn * y * B')) * (xm * x) * xn = 0 := by rw [e, Rat.zero_mul, Rat.zero_mul]
    have w2 : (U' * (ym * y * A') + V' * (yn * y * B')) * (xm * x) * xn = xn * U' * A' * (ym * y * (xm * x)) + xm * V' * B' * (yn * y * (xn * x)) := by grind
    rw [ia, ib, w] at w2
    grind
  have z0 := zero_nz key
  have r := h (rvl n U) (rvl m V) (by rw [hn]; exact rvl_pdb n U) (by rw [hm]; exact rvl_pdb m V) (fun x => by
    have a := pev_eq (R := []) z0 x
    rw [padd_ev, pmul_ev, pmul_ev] at a
    exact a)
  have back : ∀ (n : Nat) (A : List Int), pdb A (n + 1) → (∀ k, pgt (rvl n A) k = 0) → ∀ k, pgt A k = 0 := fun n A hA hr k => by
    by_cases c : k ≤ n
    · have a := hr (n - k)
      rw [rvl_gt (by omega), show n - (n - k) = k by omega] at a
      exact a
    · exact hA k (by omega)
  exact ⟨back n U hU' r.1, back m V hV' r.2⟩
/-- where a sign turns within a narrow interval the value is small -/
theorem lip1 {P : List Int} {d H : Nat} {l r : Rat} (hP : pdb P (d + 1)) (d8 : d ≤ 8) (hH : pab P H) (hl : rb l 1) (hr : rb r 1) (hlr : l < r) (hs : pev P l * pev P r < 0) : rb (pev P l) ((r - l) * (81 * (H : Rat))) := by
  have e := fun x => pdb_ev (P := P) (n := d + 1) hP (x := x)
  obtain ⟨D, hD, eD⟩ := pev_t1 hl hr (pmk (d + 1) (pgt P))
  rw [e, e] at eD
  have bb : b1 (pmk (d + 1) (pgt P)) 1 ≤ 81 * (H : Rat) := by
    have m := b1_num (X := 1) (H := H) (by decide) 7 (pmk (d + 1) (pgt P)) (by rw [pmk_len]; omega) (fun k => by rw [pdb_tr hP]; exact hH k)
    have o : (1 : Rat) ^ 7 = 1 := pw1 7
    rw [o] at m
    have n9 : ((7 + 2 : Nat) : Rat) * ((7 + 2 : Nat) : Rat) = 81 := by rw [show ((7 + 2 : Nat) : Rat) = 9 from rfl]; grind
    rw [n9, Rat.mul_one] at m
    exact m
  have hD2 := rb_mono hD bb
  have w : rb ((r - l) * D) ((r - l) * (81 * (H : Rat))) := by
    have w0 : rb (r - l) (r - l) := ⟨by grind, Rat.le_refl⟩
    exact rb_mul w0 hD2
  have eD2 : pev P l - pev P r = -((r - l) * D) := by rw [eD]; grind
  generalize (r - l) * D = y at w eD2
  generalize (r - l) * (81 * (H : Rat)) = Y at w ⊢
  have w1 := w.1
  have w2 := w.2
  generalize pev P l = u at hs eD2 ⊢
  generalize pev P r = v at hs eD2
  constructor
  · refine Rat.not_lt.1 fun k => ?_
    have v0 : v ≤ 0 := by grind
    have u0 : u < 0 := by grind
    have := Rat.mul_nonneg (show (0 : Rat) ≤ -u by grind) (show (0 : Rat) ≤ -v by grind)
    grind
  · refine Rat.not_lt.1 fun k => ?_
    have v0 : 0 ≤ v := by grind
    have u0 : 0 < u := by grind
    have := Rat.mul_nonneg (show (0 : Rat) ≤ u by grind) v0
    grind
