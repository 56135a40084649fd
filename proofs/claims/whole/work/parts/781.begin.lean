/-! begin -/
def ebn (st : Int) (d i : Nat) : Nat := (if 0 ≤ st then st * ((d - i : Nat) : Int) else -st * (i : Int)).toNat
/-- the polynomial for -1 .. 1 -/
def Bl (P : List Int) (d : Nat) (st : Int) : List Int := pmk (d + 1) (fun i => pgt P i * 2 ^ ebn st d i)
theorem Bl_len (P : List Int) (d : Nat) (st : Int) : (Bl P d st).length = d + 1 := pmk_len _ _
theorem Bl_gt {P : List Int} {d : Nat} {st : Int} {i : Nat} (h : i ≤ d) : pgt (Bl P d st) i = pgt P i * 2 ^ ebn st d i := by
  unfold Bl; rw [pmk_gt, if_pos (by omega)]
theorem ebn_le {st : Int} {d i : Nat} (s1 : -32 ≤ st) (s2 : st ≤ 32) (d8 : d ≤ 8) (hi : i ≤ d) : ebn st d i ≤ 256 := by
  unfold ebn
  split
  · have : st * ((d - i : Nat) : Int) ≤ 32 * ((d - i : Nat) : Int) := Int.mul_le_mul_of_nonneg_right s2 (by omega)
    omega
  · have : -st * (i : Int) ≤ 32 * (i : Int) := Int.mul_le_mul_of_nonneg_right (by omega) (by omega)
    omega
def MB : Nat := 15482880000000000 * 2 ^ 300
theorem MB_ok : ∀ d, d ≤ 8 → xok MB d := by
  have h : ∀ d ∈ List.range 9, ((MB * ffl d d : Nat) : Int) < BB := by decide +kernel
  intro d hd
  exact h d (List.mem_range.2 (by omega))
theorem Bl_b {P : List Int} {d : Nat} {st : Int} (bP : pab P 15482880000000000) (s1 : -32 ≤ st) (s2 : st ≤ 32) (d8 : d ≤ 8) : pab (Bl P d st) MB := fun i => by
  by_cases c : i ≤ d
  · rw [Bl_gt c, Int.natAbs_mul, Int.natAbs_pow]
    have e := ebn_le s1 s2 d8 c
    have p : (2 : Int).natAbs ^ ebn st d i ≤ 2 ^ 300 := Nat.pow_le_pow_right (by decide) (by omega)
    exact Nat.mul_le_mul (bP i) p
  · rw [pgt_hi _ _ (by rw [Bl_len]; omega)]; show (0 : Int).natAbs ≤ _; exact Nat.zero_le _
theorem begin_b {s : im_S} {a d : Nat} {P : List Int} {st : Int} {Q : im_S → Prop} (hP : ply s a P) (hd : s.1 a 0 = (d : Int)) (ha : a < 246) (bP : pab P 15482880000000000) (s1 : -32 ≤ st) (s2 : st ≤ 32) (hQ : ∀ s' A, pns s' A 1 d 0 (-1) st → A.length = d + 1 → (∀ y : Rat, pev A y = pev (Bl P d st) (y - 1)) → cnf s s' → Q s') : C_begin5 a st s Q := by
  intro s3 e3 s4 e4
  have d8 : d ≤ 8 := by have := hP.2.2.1; omega
  rw [show cgf s a 0 = (d : Int) from hd] at e3
  have g4 : cnf s s4 := by subst e3; subst e4; exact gfr_pf (gfr_pf (gfr_refl _ _ _) (by omega)) (by omega)
  have h44 : s4.1 267 4 = (d : Int) := by subst e3; subst e4; rw [cpf_ne (by omega), cpf_same]
  have h45 : s4.1 267 5 = st := by subst e4; rw [cpf_same]
  clear e3 e4
  have BB1 := Bl_b bP s1 s2 d8
  have MBB : (MB : Int) < BB := xok_0 (MB_ok d d8)
  refine ⟨fun q => ∃ i : Nat, q.1 = (i : Int) ∧ i ≤ d + 1 ∧ mvf s4 q.2 ∧ ∀ k, k < i → big q.2 (270 + 4 * k) (pgt (Bl P d st) k), ⟨0, rfl, by omega, gfr_refl _ _ _, fun k hk => by omega⟩, ?_⟩
  rintro ⟨x, s5⟩ ⟨i, ei, id, f5, h5⟩
  dsimp only at ei f5 h5 ⊢
  subst ei
  have hd5 : cgf s5 267 4 = (d : Int) := by show s5.1 267 4 = _; rw [f5.1 _ _ (by omega)]; exact h44
  have g5 : cnf s s5 := gfr_trans g4 (mvf_cnf f5)
  unfold C_begin5_15
  rw [hd5]
  refine ⟨fun c => ?_, fun c _ => ?_⟩
  · have : i = d + 1 := by omega
    subst this
    refine moveBy_b (m := Bl P d st) (M := MB) (Or.inr rfl) hd5 d8 (Bl_len _ _ _) (fun k hk => h5 k (by omega)) BB1 (MB_ok d d8) (fun s6 m6 h6 l6 e6 f6 => ?_)
    refine set_b ⟨by decide, by decide⟩ (by decide) (by rw [gln306]; decide) (fun s7 h7 f7 => ?_)
    refine hQ s7 m6 ⟨?_, ?_, h7, fun k hk => ?_⟩ l6 (fun y => ?_) (cnf_c (gfr_trans g5 (mvf_cnf f6)) f7)
    · rw [f7.1 _ _ (by omega), f6.1 _ _ (by omega)]; exact hd5
    · rw [f7.1 _ _ (by omega), f6.1 _ _ (by omega), f5.1 _ _ (by omega), h45]; omega
    · have e : pgt (msc 1 (nM m6 0 (-1))) k = pgt m6 k := by rw [msc_gt, Int.one_mul]; rfl
      rw [e]
      exact big_fr (h6 k hk) f7 (by omega)
    · rw [e6 y]
      have : (((-1 : Int)) : Rat) = -1 := rfl
      rw [this, Rat.sub_eq_add_neg]
  · have hP5 : ply s5 a P := ply_fr hP g5 (by omega) (by omega)
    have ev : cga s5 (a + 1) (i : Int) = pgt P i := by
      show s5.2 (a + 1) ((i : Nat) : Int).toNat = _
      rw [Int.toNat_natCast]
      exact hP5.1 i (by omega)
    rw [ev, Int.toNat_natCast]
    have b := bP i
    have g := (gln_mv i (by omega)).1
    refine set_b ⟨by omega, by omega⟩ (by omega) (by omega) (fun s6 h6 f6 v ev2 => ?_)
    have hd6 : cgf s6 267 4 = (d : Int) := by show s6.1 267 4 = _; rw [f6.1 _ _ (by omega)]; exact hd5
    have ee := ebn_le s1 s2 d8 (show i ≤ d by omega)
    have vt : v.toNat = ebn st d i ∧ v ≤ 1000000 := by
      rw [ev2, hd6]
      unfold ebn at ee ⊢
      have ed : w32 ((d : Int) - (i : Int)) = ((d - i : Nat) : Int) := by rw [w32_id (by omega) (by omega)]; omega
      by_cases c0 : 0 ≤ st
      · rw [if_pos c0] at ee
        rw [if_pos c0, if_pos c0, ed]
        have : 0 ≤ st * ((d - i : Nat) : Int) := Int.mul_nonneg c0 (by omega)
        rw [w32_id (by omega) (by omega)]
        exact ⟨rfl, by omega⟩
      · rw [if_neg c0] at ee
        rw [if_neg c0, if_neg c0, w32_id (x := -st) (by omega) (by omega)]
        have : 0 ≤ -st * (i : Int) := Int.mul_nonneg (by omega) (by omega)
        rw [w32_id (by omega) (by omega)]
        exact ⟨rfl, by omega⟩
    have eB : pgt P i * 2 ^ v.toNat = pgt (Bl P d st) i := by rw [vt.1, Bl_gt (by omega)]
    have eA : ((pgt P i).natAbs : Int) * 2 ^ v.toNat = ((pgt (Bl P d st) i).natAbs : Int) := by
      rw [← eB, Int.natAbs_mul, Int.natCast_mul, Int.natAbs_pow, Int.natCast_pow]; rfl
    have bb := BB1 i
    refine shiftUp_b h6 vt.2 (by omega) (by omega) (by rw [eA, rm_mv (by omega)]; omega) (fun s7 h7 f7 => ⟨i + 1, w32s (by omega), by omega, mvf_b (mvf_b f5 (by omega) f6) (by omega) f7, fun k hk => ?_⟩)
    by_cases ck : k = i
    · subst ck; rw [← eB]; exact h7
    · exact big_fr (big_fr (h5 k (by omega)) f6 (by omega)) f7 (by omega)
/-! how large the rows are -/
def adh (x : Int) : List Int → List Int
  | [] => [x]
  | y :: r => (x + y) :: r
def tay (t : Nat) (c : Int) : List Int → List Int
  | [] => []
  | x :: B => adh (2 ^ (t * B.length) * x) (lml c 1 (tay t c B))
def n1 : List Int → Nat
  | [] => 0
  | x :: r => x.natAbs + n1 r
def w1n : List Int → Nat
  | [] => 0
  | x :: r => x.natAbs + 2 * w1n r
theorem n1_pab (m : List Int) (k : Nat) : (pgt m k).natAbs ≤ n1 m := by
  induction m generalizing k with
  | nil => exact Nat.le_refl _
  | cons a p ih =>
    show _ ≤ a.natAbs + n1 p
    cases k with
    | zero => show a.natAbs ≤ _; omega
    | succ k => have := ih k; show (pgt p k).natAbs ≤ _; omega
theorem n1_adh (x : Int) (r : List Int) : n1 (adh x r) ≤ x.natAbs + n1 r := by
  cases r with
  | nil => show x.natAbs + 0 ≤ _; omega
  | cons y r => show (x + y).natAbs + n1 r ≤ x.natAbs + (y.natAbs + n1 r); omega
theorem n1_lml (c : Int) (m : List Int) : n1 (lml c 1 m) ≤ (c.natAbs + 1) * n1 m := by
  have g : ∀ (m : List Int) (p : Int), n1 (lmu c 1 p m) ≤ (c.natAbs + 1) * n1 m + p.natAbs := by
    intro m
    induction m with
    | nil => intro p; show (1 * p).natAbs + 0 ≤ _; rw [Int.one_mul]; show _ ≤ _ * 0 + p.natAbs; omega
    | cons x r ih =>
      intro p
      have := ih x
      show (c * x + 1 * p).natAbs + n1 (lmu c 1 x r) ≤ (c.natAbs + 1) * (x.natAbs + n1 r) + p.natAbs
      have e : (c * x).natAbs = c.natAbs * x.natAbs := Int.natAbs_mul _ _
      have e2 : (c.natAbs + 1) * (x.natAbs + n1 r) = c.natAbs * x.natAbs + x.natAbs + (c.natAbs + 1) * n1 r := by grind
      rw [Int.one_mul]
      omega
  have := g m 0
  show n1 (lmu c 1 0 m) ≤ _
  have z : (0 : Int).natAbs = 0 := rfl
  omega
theorem adh_ev (x : Int) (r : List Int) (y : Rat) : pev (adh x r) y = x + pev r y := by
  cases r with
  | nil => show (x : Rat) + y * 0 = x + 0; grind
  | cons z r => show ((x + z : Int) : Rat) + y * pev r y = x + ((z : Rat) + y * pev r y); rw [Rat.intCast_add]; grind
theorem adh_len (x : Int) (m : List Int) (c : Int) : (adh x (lml c 1 m)).length = m.length + 1 := by
  have h := lml_len c 1 m
  cases hh : lml c 1 m with
  | nil => rw [hh] at h; simp at h
  | cons y r => rw [hh] at h; exact h
theorem tay_len (t : Nat) (c : Int) : ∀ B : List Int, (tay t c B).length = B.length
  | [] => rfl
  | x :: B => by
    show (adh _ (lml c 1 (tay t c B))).length = _
    rw [adh_len, tay_len t c B]; rfl
theorem tay_ev (t : Nat) (c : Int) (z : Rat) : ∀ B : List Int, 2 ^ t * pev (tay t c B) (2 ^ t * z - c) = 2 ^ (t * B.length) * pev B z
  | [] => by show _ * (0 : Rat) = _ * 0; grind
  | x :: B => by
    have ih := tay_ev t c z B
    show 2 ^ t * pev (adh _ (lml c 1 (tay t c B))) _ = 2 ^ (t * (B.length + 1)) * ((x : Rat) + z * pev B z)
    rw [adh_ev, lml_ev, Rat.intCast_mul, Rat.intCast_pow, rat_i1]
    have e2 : ((2 : Int) : Rat) = 2 := rfl
    rw [e2, Nat.mul_add, Nat.mul_one, rp_ad]
    have e3 : (2 : Rat) ^ t * (2 ^ (t * B.length) * (x : Rat) + ((c : Rat) + 1 * (2 ^ t * z - c)) * pev (tay t c B) (2 ^ t * z - c)) = 2 ^ t * 2 ^ (t * B.length) * x + 2 ^ t * z * (2 ^ t * pev (tay t c B) (2 ^ t * z - c)) := by grind
    rw [e3, ih]; grind
theorem tay_bd {t : Nat} {c : Int} (hc : (c.natAbs : Int) ≤ 2 ^ t) : ∀ B : List Int, 2 ^ t * n1 (tay t c B) ≤ 2 ^ (t * B.length) * w1n B
  | [] => by show _ * 0 ≤ _; omega
  | x :: B => by
    have ih := tay_bd hc B
    have hc' : c.natAbs ≤ 2 ^ t := by
      have e : ((2 ^ t : Nat) : Int) = 2 ^ t := by rw [Int.natCast_pow]; rfl
      omega
    have p1 : 1 ≤ 2 ^ t := Nat.one_le_two_pow
    have a := n1_adh (2 ^ (t * B.length) * x) (lml c 1 (tay t c B))
    have b := n1_lml c (tay t c B)
    have e1 : (2 ^ (t * B.length) * x : Int).natAbs = 2 ^ (t * B.length) * x.natAbs := by rw [Int.natAbs_mul, Int.natAbs_pow]; rfl
    have c1 : (c.natAbs + 1) * n1 (tay t c B) ≤ (2 * 2 ^ t) * n1 (tay t c B) := Nat.mul_le_mul_right _ (by omega)
    have e2 : (2 * 2 ^ t) * n1 (tay t c B) = 2 * (2 ^ t * n1 (tay t c B)) := by grind
    have d1 : n1 (tay t c (x :: B)) ≤ 2 ^ (t * B.length) * x.natAbs + 2 * (2 ^ (t * B.length) * w1n B) := by
      show n1 (adh _ (lml c 1 (tay t c B))) ≤ _
      omega
    have e3 : 2 ^ (t * (x :: B).length) * w1n (x :: B) = 2 ^ t * (2 ^ (t * B.length) * x.natAbs + 2 * (2 ^ (t * B.length) * w1n B)) := by
      show 2 ^ (t * (B.length + 1)) * (x.natAbs + 2 * w1n B) = _
      rw [show t * (B.length + 1) = t * B.length + t by rw [Nat.mul_add, Nat.mul_one], Nat.pow_add]; grind
    rw [e3]
    exact Nat.mul_le_mul_left _ d1
theorem nM_tay {A B : List Int} (hl : A.length = B.length) (h1 : 1 ≤ B.length) (he : ∀ y : Rat, pev A y = pev B (y - 1)) {t : Nat} {c : Int} (b1 : -(2 ^ t) ≤ c) (b2 : c ≤ 2 ^ t) : nM A t c = tay t c B := by
  refine lst_ev (by rw [nM_len, tay_len]; exact hl) (fun x => ?_)
  have tp : (0 : Rat) < 2 ^ t := rp_pos (by grind) t
  have ex : x = 2 ^ t * ((x + c) / 2 ^ t) - c := by grind
  rw [ex, nM_ev A _ t c b1 b2, he, show (x + (c : Rat)) / 2 ^ t + 1 - 1 = (x + c) / 2 ^ t by grind]
  have e := tay_ev t c ((x + c) / 2 ^ t) B
  have e2 : (2 : Rat) ^ (t * B.length) = 2 ^ t * 2 ^ (t * (B.length - 1)) := by
    rw [← rp_ad]
    congr 1
    obtain ⟨n, hn⟩ : ∃ n, B.length = n + 1 := ⟨B.length - 1, by omega⟩
    rw [hn, Nat.add_sub_cancel, Nat.mul_add, Nat.mul_one]; omega
  rw [e2, Rat.mul_assoc] at e
  have : (2 : Rat) ^ t * (pev (tay t c B) (2 ^ t * ((x + c) / 2 ^ t) - c) - 2 ^ (t * (B.length - 1)) * pev B ((x + c) / 2 ^ t)) = 0 := by grind
  rcases Rat.mul_eq_zero.1 this with q | q
  · grind
  · rw [hl]; grind
/-- all rows from the first polynomial -/
theorem nbd_0 {A B : List Int} {d D : Nat} (hA : A.length = d + 1) (hB : B.length = d + 1) (he : ∀ y : Rat, pev A y = pev B (y - 1)) : nbd D A 1 (2 ^ (D * d) * w1n B) := by
  intro t c tD b1 b2 k
  rw [msc_gt, Int.one_mul, nM_tay (by rw [hA, hB]) (by omega) he b1 b2]
  have a := n1_pab (tay t c B) k
  have b := tay_bd (t := t) (c := c) (by omega) B
  rw [hB, Nat.mul_add, Nat.mul_one, Nat.pow_add, Nat.mul_comm (2 ^ (t * d)), Nat.mul_assoc] at b
  have b' := Nat.le_of_mul_le_mul_left b Nat.one_le_two_pow
  have c1 : 2 ^ (t * d) ≤ 2 ^ (D * d) := Nat.pow_le_pow_right (by decide) (Nat.mul_le_mul_right _ tD)
  have c2 : 2 ^ (t * d) * w1n B ≤ 2 ^ (D * d) * w1n B := Nat.mul_le_mul_right _ c1
  omega
