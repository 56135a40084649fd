/-! U F + V G AND ITS DERIVATIVE AT A PLACE, as forms in the factors of U and V -/
def ca (m : Nat) (l f0 g0 : Rat) (i : Nat) : Rat := if i < m then l ^ i * f0 else l ^ (i - m) * g0
def cb (m : Nat) (l f0 f1 g0 g1 : Rat) (i : Nat) : Rat := if i < m then (i : Rat) * l ^ (i - 1) * f0 + l ^ i * f1 else ((i - m : Nat) : Rat) * l ^ (i - m - 1) * g0 + l ^ (i - m) * g1
theorem pdl_pmk (n : Nat) (f : Nat → Int) : pdl (pmk (n + 1) f) = pmk n (fun j => f (j + 1) * ((j : Int) + 1)) := by
  unfold pdl
  rw [pmk_len, Nat.add_sub_cancel]
  exact pmk_co (fun j hj => by rw [pmk_gt, if_pos (by omega)])
theorem pev_smq (x : Rat) (z : Nat → Int) : ∀ n : Nat, pev (pmk n z) x = smq n (fun i => x ^ i * (z i : Rat))
  | 0 => rfl
  | n + 1 => by
    rw [pev_top, pev_smq x z n]
    show smq n (fun i => x ^ i * (z i : Rat)) + (z n : Rat) * x ^ n = smq n (fun i => x ^ i * (z i : Rat)) + x ^ n * (z n : Rat)
    rw [Rat.mul_comm (z n : Rat)]
theorem pdv_smq (x : Rat) (z : Nat → Int) : ∀ n : Nat, pev (pdl (pmk n z)) x = smq n (fun i => (i : Rat) * x ^ (i - 1) * (z i : Rat))
  | 0 => rfl
  | 1 => by
    rw [pdl_pmk]
    show (0 : Rat) = 0 + ((0 : Nat) : Rat) * x ^ (0 - 1) * (z 0 : Rat)
    rw [show ((0 : Nat) : Rat) = 0 from rfl]
    grind
  | n + 2 => by
    have ih := pdv_smq x z (n + 1)
    rw [pdl_pmk] at ih ⊢
    rw [pev_top, ih]
    show smq (n + 1) (fun i => (i : Rat) * x ^ (i - 1) * (z i : Rat)) + ((z (n + 1) * ((n : Int) + 1) : Int) : Rat) * x ^ n = smq (n + 1) (fun i => (i : Rat) * x ^ (i - 1) * (z i : Rat)) + ((n + 1 : Nat) : Rat) * x ^ (n + 1 - 1) * (z (n + 1) : Rat)
    rw [Nat.add_sub_cancel, Rat.intCast_mul, Rat.intCast_add, rat_i1, rat_s, Rat.intCast_natCast]
    generalize smq (n + 1) (fun i => (i : Rat) * x ^ (i - 1) * (z i : Rat)) = S
    generalize x ^ n = Y
    grind
theorem ca_sum (m : Nat) (l f0 g0 : Rat) (z : Nat → Int) : smq (m + m) (fun i => ca m l f0 g0 i * (z i : Rat)) = pev (pmk m z) l * f0 + pev (pmk m (fun j => z (m + j))) l * g0 := by
  have e1 : smq m (fun i => ca m l f0 g0 i * (z i : Rat)) = f0 * smq m (fun i => l ^ i * (z i : Rat)) := by
    rw [← smq_sc f0 m (fun i => l ^ i * (z i : Rat))]
    exact smq_co (fun k hk => by unfold ca; rw [if_pos hk]; grind)
  have e2 : smq m (fun i => ca m l f0 g0 (m + i) * (z (m + i) : Rat)) = g0 * smq m (fun i => l ^ i * (z (m + i) : Rat)) := by
    rw [← smq_sc g0 m (fun i => l ^ i * (z (m + i) : Rat))]
    exact smq_co (fun k hk => by unfold ca; rw [if_neg (by omega), Nat.add_sub_cancel_left]; grind)
  rw [smq_two, e1, e2, pev_smq, pev_smq]
  grind
theorem cb_sum (m : Nat) (l f0 f1 g0 g1 : Rat) (z : Nat → Int) : smq (m + m) (fun i => cb m l f0 f1 g0 g1 i * (z i : Rat)) = pev (pdl (pmk m z)) l * f0 + pev (pmk m z) l * f1 + (pev (pdl (pmk m (fun j => z (m + j)))) l * g0 + pev (pmk m (fun j => z (m + j))) l * g1) := by
  have e1 : smq m (fun i => cb m l f0 f1 g0 g1 i * (z i : Rat)) = f0 * smq m (fun i => (i : Rat) * l ^ (i - 1) * (z i : Rat)) + f1 * smq m (fun i => l ^ i * (z i : Rat)) := by
    rw [← smq_sc f0 m (fun i => (i : Rat) * l ^ (i - 1) * (z i : Rat)), ← smq_sc f1 m (fun i => l ^ i * (z i : Rat)), ← smq_add]
    exact smq_co (fun k hk => by unfold cb; rw [if_pos hk]; grind)
  have e2 : smq m (fun i => cb m l f0 f1 g0 g1 (m + i) * (z (m + i) : Rat)) = g0 * smq m (fun i => (i : Rat) * l ^ (i - 1) * (z (m + i) : Rat)) + g1 * smq m (fun i => l ^ i * (z (m + i) : Rat)) := by
    rw [← smq_sc g0 m (fun i => (i : Rat) * l ^ (i - 1) * (z (m + i) : Rat)), ← smq_sc g1 m (fun i => l ^ i * (z (m + i) : Rat)), ← smq_add]
    exact smq_co (fun k hk => by unfold cb; rw [if_neg (by omega), Nat.add_sub_cancel_left]; grind)
  rw [smq_two, e1, e2, pev_smq, pev_smq, pdv_smq, pdv_smq]
  grind
def sn : Nat → (Nat → Nat) → Nat
  | 0, _ => 0
  | n + 1, f => sn n f + f n
theorem smq_nat (H : Rat) (f : Nat → Nat) : ∀ n : Nat, smq n (fun k => H * (f k : Rat)) = H * (sn n f : Rat)
  | 0 => by show (0 : Rat) = H * ((0 : Nat) : Rat); rw [show ((0 : Nat) : Rat) = 0 from rfl]; grind
  | n + 1 => by
    show smq n (fun k => H * (f k : Rat)) + H * (f n : Rat) = H * ((sn n f + f n : Nat) : Rat)
    rw [smq_nat H f n, Rat.natCast_add]; grind
/-- how large the factors of x^i F and x^i G may be, in parts of H -/
def wv (m e i : Nat) : Nat := if i < m then (if e < i then 0 else if m < e - i then 0 else e - i + 1) else (if e < i - m then 0 else if m < e - (i - m) then 0 else m + 1 - (e - (i - m)))
theorem rcf_bd {F G : List Int} {m H : Nat} (hF : ∀ j, (pgt F j).natAbs ≤ if j ≤ m then (j + 1) * H else 0) (hG : ∀ j, (pgt G j).natAbs ≤ if j ≤ m then (m + 1 - j) * H else 0) (e i : Nat) : rb (rcf F G m e i : Rat) ((H : Rat) * (wv m e i : Rat)) := by
  have key : (rcf F G m e i).natAbs ≤ H * wv m e i := by
    unfold rcf wv
    by_cases c : i < m
    · rw [if_pos c, if_pos c]
      by_cases c2 : e < i
      · rw [if_pos c2, if_pos c2]; exact Nat.zero_le _
      · rw [if_neg c2, if_neg c2]
        have h := hF (e - i)
        by_cases c3 : m < e - i
        · rw [if_neg (by omega)] at h
          rw [if_pos c3]
          exact Nat.le_trans h (Nat.zero_le _)
        · rw [if_pos (by omega)] at h
          rw [if_neg c3, Nat.mul_comm]
          exact h
    · rw [if_neg c, if_neg c]
      by_cases c2 : e < i - m
      · rw [if_pos c2, if_pos c2]; exact Nat.zero_le _
      · rw [if_neg c2, if_neg c2]
        have h := hG (e - (i - m))
        by_cases c3 : m < e - (i - m)
        · rw [if_neg (by omega)] at h
          rw [if_pos c3]
          exact Nat.le_trans h (Nat.zero_le _)
        · rw [if_pos (by omega)] at h
          rw [if_neg c3, Nat.mul_comm]
          exact h
  refine rb_mono (rb_int _) ?_
  rw [← Rat.natCast_mul]
  exact rat_le key
def cfm (F G : List Int) (m : Nat) (l mu : Rat) : Nat → Nat → Rat
  | 0, i => ca m l (pev F l) (pev G l) i - mu * cb m l (pev F l) (pev (pdl F) l) (pev G l) (pev (pdl G) l) i
  | 1, i => cb m l (pev F l) (pev (pdl F) l) (pev G l) (pev (pdl G) l) i
  | e + 2, i => (rcf F G m (e + 2) i : Rat)
def bfm (m H : Nat) (x y : Rat) : Nat → Nat → Rat
  | 0, _ => x
  | 1, _ => y
  | e + 2, i => (H : Rat) * (wv m (e + 2) i : Rat)
def Rfm (m H : Nat) (x y : Rat) : Nat → Rat
  | 0 => ((m + m : Nat) : Rat) * x
  | 1 => ((m + m : Nat) : Rat) * y
  | e + 2 => (H : Rat) * (sn (m + m) (wv m (e + 2)) : Rat)
theorem int_lt1 {a : Int} (h1 : -1 < (a : Rat)) (h2 : (a : Rat) < 1) : a = 0 := by
  have q1 : ((-1 : Int) : Rat) < (a : Rat) := h1
  have q2 : (a : Rat) < ((1 : Int) : Rat) := h2
  have r1 := Rat.intCast_lt_intCast.1 q1
  have r2 := Rat.intCast_lt_intCast.1 q2
  omega
theorem cst9_ev {F : List Int} (h : ∀ k, pgt F (k + 1) = 0) (x : Rat) : pev F x = (pgt F 0 : Rat) := by
  have e : pev F x = pev [pgt F 0] x := pev_eq (fun k => by
    cases k with
    | zero => rfl
    | succ k => rw [h k]; cases k <;> rfl) x
  rw [e]
  show (pgt F 0 : Rat) + x * 0 = _
  grind
theorem lin9_ev {F : List Int} (h : ∀ k, pgt F (k + 2) = 0) (x : Rat) : pev F x = (pgt F 0 : Rat) + x * (pgt F 1 : Rat) := by
  have e : pev F x = pev [pgt F 0, pgt F 1] x := pev_eq (fun k => by
    match k with
    | 0 => rfl
    | 1 => rfl
    | k + 2 => rw [h k]; cases k <;> rfl) x
  rw [e]
  show (pgt F 0 : Rat) + x * ((pgt F 1 : Rat) + x * 0) = _
  grind
theorem Rfm_lt {m H Z : Nat} {x y : Rat} (m1 : 1 ≤ m) (m7 : m ≤ 7) (x0 : 0 ≤ x) (y0 : 0 ≤ y) (tab : 196 * 936936 * prn (m + m - 2) (fun e => sn (m + m) (wv m (e + 2))) * H ^ (m + m) < Z) (hxy : x * y * (Z : Rat) ≤ 936936 * (H : Rat) * (H : Rat)) : prk9 (m + m) (Rfm m H x y) < 1 := by
  obtain ⟨k, hk⟩ : ∃ k, m + m = k + 2 := ⟨m + m - 2, by omega⟩
  have t1 := prk9_two (Rfm m H x y) k
  have t2 : prk9 k (fun e => Rfm m H x y (e + 2)) = (H : Rat) ^ k * (prn k (fun e => sn (m + m) (wv m (e + 2))) : Rat) := prk9_nat (H : Rat) (fun e => sn (m + m) (wv m (e + 2))) k
  rw [hk, Nat.add_sub_cancel, ← hk] at tab
  obtain ⟨S, hS⟩ : ∃ S : Nat, S = prn k (fun e => sn (m + m) (wv m (e + 2))) := ⟨_, rfl⟩
  rw [← hS] at t2 tab
  rw [t2] at t1
  obtain ⟨N, hN⟩ : ∃ N : Rat, N = ((m + m : Nat) : Rat) := ⟨_, rfl⟩
  have e0 : Rfm m H x y 0 = N * x := by rw [hN]; rfl
  have e1 : Rfm m H x y 1 = N * y := by rw [hN]; rfl
  have N0 : 0 ≤ N := by rw [hN]; exact rat_nn _
  have N14 : N ≤ 14 := by
    rw [hN]
    exact rat_le (show m + m ≤ 14 by omega)
  rw [e0, e1] at t1
  rw [show prk9 (m + m) (Rfm m H x y) = prk9 (k + 2) (Rfm m H x y) by rw [hk], t1]
  have tq : ((196 * 936936 * S * H ^ (m + m) : Nat) : Rat) < (Z : Rat) := Rat.natCast_lt_natCast.2 tab
  have Zp : (0 : Rat) < (Z : Rat) := Rat.natCast_pos.2 (by omega)
  rw [hk, Rat.natCast_mul, Rat.natCast_mul, Rat.natCast_pow, Rat.pow_succ, Rat.pow_succ] at tq
  have c1 : ((196 * 936936 : Nat) : Rat) = 196 * 936936 := by rw [Rat.natCast_mul]; rfl
  rw [c1] at tq
  have S0 : (0 : Rat) ≤ (S : Rat) := rat_nn S
  have Hk : (0 : Rat) ≤ (H : Rat) ^ k := Rat.pow_nonneg (rat_nn H)
  generalize (H : Rat) ^ k = K at tq Hk ⊢
  generalize (S : Rat) = s at tq S0 ⊢
  generalize (Z : Rat) = z at tq Zp hxy ⊢
  generalize (H : Rat) = h at tq hxy ⊢
  have T0 : 0 ≤ K * s := Rat.mul_nonneg Hk S0
  have xy0 : 0 ≤ x * y := Rat.mul_nonneg x0 y0
  have nn : N * N ≤ 14 * 14 := by
    have a : N * N ≤ 14 * N := Rat.mul_le_mul_of_nonneg_right N14 N0
    have b : 14 * N ≤ 14 * 14 := Rat.mul_le_mul_of_nonneg_left N14 (by decide)
    exact Rat.le_trans a b
  have u1 : (N * N) * (x * y * z) ≤ (14 * 14) * (x * y * z) := Rat.mul_le_mul_of_nonneg_right nn (Rat.mul_nonneg xy0 (Rat.le_of_lt Zp))
  have u2 : (14 * 14) * (x * y * z) ≤ (14 * 14) * (936936 * h * h) := Rat.mul_le_mul_of_nonneg_left hxy (by grind)
  have u3 := Rat.mul_le_mul_of_nonneg_right (Rat.le_trans u1 u2) T0
  have u4 : N * x * (N * y) * (K * s) * z < 1 * z := by
    have e1 : N * x * (N * y) * (K * s) * z = N * N * (x * y * z) * (K * s) := by grind
    have e2 : (14 : Rat) * 14 * (936936 * h * h) * (K * s) = 196 * 936936 * s * (K * h * h) := by grind
    rw [e1]
    rw [e2] at u3
    grind
  exact Rat.lt_of_mul_lt_mul_right u4 (Rat.le_of_lt Zp)
/-- F and G without common divisor can't both be as small as that at a place -/
theorem sep_core {m H Z : Nat} {F G : List Int} (m1 : 1 ≤ m) (m7 : m ≤ 7) (hF : ∀ j, (pgt F j).natAbs ≤ if j ≤ m then (j + 1) * H else 0) (hG : ∀ j, (pgt G j).natAbs ≤ if j ≤ m then (m + 1 - j) * H else 0) (tab : 196 * 936936 * prn (m + m - 2) (fun e => sn (m + m) (wv m (e + 2))) * H ^ (m + m) < Z) (inj : ∀ U V : List Int, pdb U m → pdb V m → (∀ x : Rat, pev U x * pev F x + pev V x * pev G x = 0) → (∀ k, pgt U k = 0) ∧ ∀ k, pgt V k = 0) {l mu x y : Rat} (hx : ∀ i, i < m + m → rb (ca m l (pev F l) (pev G l) i - mu * cb m l (pev F l) (pev (pdl F) l) (pev G l) (pev (pdl G) l) i) x) (hy : ∀ i, i < m + m → rb (cb m l (pev F l) (pev (pdl F) l) (pev G l) (pev (pdl G) l) i) y) (hxy : x * y * (Z : Rat) ≤ 936936 * (H : Rat) * (H : Rat)) : False := by
  have x0 : 0 ≤ x := rb_0 (hx 0 (by omega))
  have y0 : 0 ≤ y := rb_0 (hy 0 (by omega))
  have hp := Rfm_lt m1 m7 x0 y0 tab hxy
  obtain ⟨z, ⟨i0, i0n, zi⟩, hz⟩ := small_vec (n := m + m) (cfm F G m l mu) (bfm m H x y) (Rfm m H x y) (fun e k _ hk => by
    match e with
    | 0 => exact hx k hk
    | 1 => exact hy k hk
    | e + 2 => exact rcf_bd hF hG (e + 2) k) (fun e _ => by
    match e with
    | 0 => exact rle_eq (smq_cst x (m + m))
    | 1 => exact rle_eq (smq_cst y (m + m))
    | e + 2 => exact rle_eq (smq_nat (H : Rat) (wv m (e + 2)) (m + m))) hp
  obtain ⟨W, hW⟩ : ∃ W : Nat → Int, ∀ e, W e = sm (m + m) (fun i => rcf F G m e i * z i) := ⟨_, fun _ => rfl⟩
  have W2 : ∀ e, e + 2 < m + m → W (e + 2) = 0 := fun e he => by
    have a := hz (e + 2) he
    have s : smq (m + m) (fun k => cfm F G m l mu (e + 2) k * (z k : Rat)) = (W (e + 2) : Rat) := by
      rw [hW, ← smq_int]
      exact smq_co (fun k _ => (Rat.intCast_mul _ _).symm)
    rw [s] at a
    exact int_lt1 a.1 a.2
  have Whi : ∀ e, m + m ≤ e → W e = 0 := fun e he => by
    rw [hW]
    have q : sm (m + m) (fun i => rcf F G m e i * z i) = sm (m + m) (fun _ => 0) := sm_co (fun i hi => by
      have r0 : rcf F G m e i = 0 := by
        unfold rcf
        by_cases c : i < m
        · rw [if_pos c, if_neg (by omega)]
          have h := hF (e - i)
          rw [if_neg (by omega)] at h
          omega
        · rw [if_neg c, if_neg (by omega)]
          have h := hG (e - (i - m))
          rw [if_neg (by omega)] at h
          omega
      rw [r0, Int.zero_mul])
    rw [q]
    have zz : ∀ n : Nat, sm n (fun _ => 0) = 0 := fun n => by
      induction n with
      | zero => rfl
      | succ n ih => show sm n (fun _ => 0) + 0 = 0; rw [ih]; rfl
    exact zz _
  obtain ⟨L, hL⟩ : ∃ L, L = pmk (m + m + F.length + G.length) W := ⟨_, rfl⟩
  have evL : ∀ t : Rat, pev L t = pev (pmk m z) t * pev F t + pev (pmk m (fun j => z (m + j))) t * pev G t := fun t => by
    have r := rcf_ev (A := F) (B := G) (m := m) (n := m + m + F.length + G.length) z t (m + m) (Nat.le_refl _)
    rw [show min (m + m) m = m by omega, show m + m - m = m by omega] at r
    rw [hL, ← r]
    exact congrArg (fun p => pev p t) (pmk_co (fun k _ => hW k))
  have gL : ∀ k, pgt L (k + 2) = 0 := fun k => by
    rw [hL, pmk_gt]
    split
    · by_cases c : k + 2 < m + m
      · exact W2 k c
      · exact Whi _ (by omega)
    · rfl
  have dL : ∀ t : Rat, pev (pdl L) t = (pev (pdl (pmk m z)) t * pev F t + pev (pmk m z) t * pev (pdl F) t) + (pev (pdl (pmk m (fun j => z (m + j)))) t * pev G t + pev (pmk m (fun j => z (m + j))) t * pev (pdl G) t) := fun t => by
    rw [← pdl_mul, ← pdl_mul, ← pdl_add]
    exact pdl_co (pev_inj (fun u => by rw [evL u, padd_ev, pmul_ev, pmul_ev])) t
  have v1 : pev (pdl L) l = (pgt L 1 : Rat) := by
    rw [cst9_ev (F := pdl L) (fun k => by rw [pdl_gt, gL k, Int.zero_mul]) l, pdl_gt]
    rw [show ((0 : Nat) : Int) + 1 = 1 from rfl, Int.mul_one]
  have v0 : pev L l = (pgt L 0 : Rat) + l * (pgt L 1 : Rat) := lin9_ev gL l
  have s1 : smq (m + m) (fun k => cfm F G m l mu 1 k * (z k : Rat)) = (pgt L 1 : Rat) := by
    rw [← v1, dL]
    exact cb_sum m l (pev F l) (pev (pdl F) l) (pev G l) (pev (pdl G) l) z
  have L1 : pgt L 1 = 0 := by
    have a := hz 1 (by omega)
    rw [s1] at a
    exact int_lt1 a.1 a.2
  have s0 : smq (m + m) (fun k => cfm F G m l mu 0 k * (z k : Rat)) = (pgt L 0 : Rat) := by
    have a := ca_sum m l (pev F l) (pev G l) z
    have b := cb_sum m l (pev F l) (pev (pdl F) l) (pev G l) (pev (pdl G) l) z
    rw [← evL, v0, L1, rat_i0] at a
    rw [← dL, v1, L1, rat_i0] at b
    have e : smq (m + m) (fun k => cfm F G m l mu 0 k * (z k : Rat)) = smq (m + m) (fun i => ca m l (pev F l) (pev G l) i * (z i : Rat)) - mu * smq (m + m) (fun i => cb m l (pev F l) (pev (pdl F) l) (pev G l) (pev (pdl G) l) i * (z i : Rat)) := by
      rw [← smq_sc, ← smq_sub]
      exact smq_co (fun k _ => by
        show (ca m l (pev F l) (pev G l) k - mu * cb m l (pev F l) (pev (pdl F) l) (pev G l) (pev (pdl G) l) k) * (z k : Rat) = _
        generalize ca m l (pev F l) (pev G l) k = A
        generalize cb m l (pev F l) (pev (pdl F) l) (pev G l) (pev (pdl G) l) k = B
        grind)
    rw [e, a, b]
    grind
  have L0 : pgt L 0 = 0 := by
    have a := hz 0 (by omega)
    rw [s0] at a
    exact int_lt1 a.1 a.2
  have zz : ∀ t : Rat, pev (pmk m z) t * pev F t + pev (pmk m (fun j => z (m + j))) t * pev G t = 0 := fun t => by
    rw [← evL t, lin9_ev gL t, L0, L1, rat_i0]
    grind
  obtain ⟨u0, w0⟩ := inj (pmk m z) (pmk m (fun j => z (m + j))) (by have := pdb_len (pmk m z); rw [pmk_len] at this; exact this) (by have := pdb_len (pmk m (fun j => z (m + j))); rw [pmk_len] at this; exact this) zz
  by_cases c : i0 < m
  · have q := u0 i0
    rw [pmk_gt, if_pos c] at q
    exact zi q
  · have q := w0 (i0 - m)
    rw [pmk_gt, if_pos (by omega), show m + (i0 - m) = i0 by omega] at q
    exact zi q
