/-! THE PARTER'S POLYNOMIAL: canonical row, a linear factor taken out -/
def Af (P : List Int) (d : Nat) (st : Int) : List Int := fsw (-1) d (Bl P d st)
theorem Af_len (P : List Int) (d : Nat) (st : Int) : (Af P d st).length = d + 1 := by
  unfold Af; rw [fsw_len _ _ _ (by rw [Bl_len]; omega), Bl_len]
theorem Af_ev (P : List Int) (d : Nat) (st : Int) (y : Rat) : pev (Af P d st) y = pev (Bl P d st) (y - 1) := by
  unfold Af
  rw [fsw_ev _ _ _ _ (Bl_len _ _ _)]
  have : (((-1 : Int)) : Rat) = -1 := rfl
  rw [this, Rat.sub_eq_add_neg]
theorem Af_P {P : List Int} {d : Nat} {st : Int} (hP : pdb P (d + 1)) : ∃ ka : Rat, 0 < ka ∧ ∀ y : Rat, pev (Af P d st) y = ka * pev P (wR st * (y - 1)) := by
  obtain ⟨ka, k0, h⟩ := Bl_ev (st := st) hP
  exact ⟨ka, k0, fun y => by rw [Af_ev, h]⟩
/-- P = (q x - p) P' for the canonical rows -/
theorem Af_lin {P P' : List Int} {d : Nat} {st p q : Int} (hq : 0 < q) (hP : pdb P (d + 2)) (hP' : pdb P' (d + 1)) (e : ∀ x : Rat, pev P x = (q * x - p) * pev P' x) : ∃ al be : Int, 0 < be ∧ Af P (d + 1) st = lml al be (Af P' d st) ∧ ∀ (z : Rat), (al : Rat) + be * (z + 1) = 0 ↔ q * (wR st * z) = p := by
  obtain ⟨al, be, b0, hB, hz⟩ : ∃ al be : Int, 0 < be ∧ (∀ z : Rat, pev (Bl P (d + 1) st) z = (al + be * z) * pev (Bl P' d st) z) ∧ ∀ z : Rat, (al : Rat) + be * z = 0 ↔ q * (wR st * z) = p := by
    by_cases c : 0 ≤ st
    · have r2 : ((2 ^ st.toNat : Int) : Rat) = 2 ^ st.toNat := by rw [Rat.intCast_pow]; rfl
      have pp := q2p st.toNat
      have bl : ∀ (P : List Int) (n : Nat), pdb P (n + 1) → ∀ z : Rat, pev (Bl P n st) z = (2 ^ st.toNat) ^ n * pev P (z / 2 ^ st.toNat) := fun P n hP z => by
        have e : Bl P n st = pmk (n + 1) (fun i => pgt P i * (2 ^ st.toNat) ^ (n - i)) := pmk_co (fun i hi => by
          unfold ebn
          rw [if_pos c, ← Int.pow_mul]
          congr 2
          rw [show st = ((st.toNat : Nat) : Int) by omega, ← Int.natCast_mul, Int.toNat_natCast, Int.toNat_natCast])
        rw [e, ev_sd _ (by rw [r2]; grind), pdb_ev hP, r2]
      refine ⟨-(p * 2 ^ st.toNat), q, hq, fun z => ?_, fun z => ?_⟩
      · rw [bl P (d + 1) hP, bl P' d hP', e, Rat.intCast_neg, Rat.intCast_mul, r2, Rat.pow_succ]
        grind
      · unfold wR xv
        rw [if_pos c, rat_i1, Rat.intCast_neg, Rat.intCast_mul, r2]
        constructor
        · intro h; grind
        · intro h; grind
    · have r2 : ((2 ^ (-st).toNat : Int) : Rat) = 2 ^ (-st).toNat := by rw [Rat.intCast_pow]; rfl
      have pp := q2p (-st).toNat
      have bl : ∀ (P : List Int) (n : Nat), pdb P (n + 1) → ∀ z : Rat, pev (Bl P n st) z = pev P (2 ^ (-st).toNat * z) := fun P n hP z => by
        have e : Bl P n st = pmk (n + 1) (fun i => pgt P i * (2 ^ (-st).toNat) ^ i) := pmk_co (fun i hi => by
          unfold ebn
          rw [if_neg c, ← Int.pow_mul]
          congr 2
          rw [show -st = (((-st).toNat : Nat) : Int) by omega, ← Int.natCast_mul, Int.toNat_natCast, Int.toNat_natCast])
        rw [e, ev_sc, pdb_ev hP, r2]
      refine ⟨-p, q * 2 ^ (-st).toNat, Int.mul_pos hq (p2p _), fun z => ?_, fun z => ?_⟩
      · rw [bl P (d + 1) hP, bl P' d hP', e, Rat.intCast_neg, Rat.intCast_mul, r2]
        grind
      · unfold wR xv
        rw [if_neg c, rat_i1, Rat.intCast_neg, Rat.intCast_mul, r2]
        constructor
        · intro h; grind
        · intro h; grind
  refine ⟨al - be, be, b0, lst_ev (by rw [lml_len, Af_len, Af_len]) (fun y => ?_), fun z => ?_⟩
  · rw [Af_ev, hB, lml_ev, Af_ev, Rat.intCast_sub]
    grind
  · rw [← hz z, Rat.intCast_sub]
    constructor
    · intro h; grind
    · intro h; grind
theorem lml_bd {al be : Int} {m : List Int} {X : Nat} (hb : 0 < be) (h : pab (lml al be m) X) : pab (msc be m) (m.length * X) := by
  have co : ∀ k, pgt (lml al be m) k = al * pgt m k + be * (if k = 0 then 0 else pgt m (k - 1)) := fun k => lmu_gt al be m 0 k
  intro k
  rw [msc_gt, Int.natAbs_mul]
  by_cases ck : m.length ≤ k
  · rw [pgt_hi m k ck]; show _ * 0 ≤ _; omega
  by_cases c : al.natAbs ≤ be.natAbs
  · have go : ∀ j k : Nat, m.length ≤ k + j → be.natAbs * (pgt m k).natAbs ≤ j * X := by
      intro j
      induction j with
      | zero => intro k hk; rw [pgt_hi m k (by omega)]; show _ * 0 ≤ _; omega
      | succ j ih =>
        intro k hk
        have i1 := ih (k + 1) (by omega)
        have h1 := h (k + 1)
        rw [co (k + 1), if_neg (by omega), Nat.add_sub_cancel] at h1
        have m1 : (al * pgt m (k + 1)).natAbs ≤ be.natAbs * (pgt m (k + 1)).natAbs := by
          rw [Int.natAbs_mul]; exact Nat.mul_le_mul_right _ c
        have m2 : (be * pgt m k).natAbs = be.natAbs * (pgt m k).natAbs := Int.natAbs_mul _ _
        have e : (j + 1) * X = j * X + X := Nat.succ_mul _ _
        omega
    refine Nat.le_trans (go (m.length - k) k (by omega)) (Nat.mul_le_mul_right _ (by omega))
  · have go : ∀ k : Nat, al.natAbs * (pgt m k).natAbs ≤ (k + 1) * X := by
      intro k
      induction k with
      | zero =>
        have h1 := h 0
        rw [co 0, if_pos rfl, Int.mul_zero, Int.add_zero, Int.natAbs_mul] at h1
        omega
      | succ k ih =>
        have h1 := h (k + 1)
        rw [co (k + 1), if_neg (by omega), Nat.add_sub_cancel] at h1
        have m1 : (be * pgt m k).natAbs ≤ al.natAbs * (pgt m k).natAbs := by
          rw [Int.natAbs_mul]; exact Nat.mul_le_mul_right _ (by omega)
        have m2 : (al * pgt m (k + 1)).natAbs = al.natAbs * (pgt m (k + 1)).natAbs := Int.natAbs_mul _ _
        have e : (k + 1 + 1) * X = (k + 1) * X + X := Nat.succ_mul _ _
        omega
    have a := go k
    have b : be.natAbs * (pgt m k).natAbs ≤ al.natAbs * (pgt m k).natAbs := Nat.mul_le_mul_right _ (by omega)
    have d : (k + 1) * X ≤ m.length * X := Nat.mul_le_mul_right _ (by omega)
    omega
theorem msc_lml (u al be : Int) (m : List Int) : msc u (lml al be m) = lml al be (msc u m) := lst_ext (by rw [msc_len, lml_len, lml_len, msc_len]) (fun k => by
  have co : ∀ (m : List Int) (k : Nat), pgt (lml al be m) k = al * pgt m k + be * (if k = 0 then 0 else pgt m (k - 1)) := fun m k => lmu_gt al be m 0 k
  rw [msc_gt, co, co, msc_gt, msc_gt]
  split
  · grind
  · grind)
theorem msc_msc (u v : Int) (m : List Int) : msc u (msc v m) = msc (v * u) m := lst_ext (by rw [msc_len, msc_len, msc_len]) (fun k => by rw [msc_gt, msc_gt, msc_gt]; grind)
theorem nbd_drop {D : Nat} {a a' : List Int} {al be u : Int} {X : Nat} (hb : 0 < be) (e : a = lml al be a') (hn : a' ≠ []) (h : nbd D a u X) : nbd D a' (u * be) (a'.length * X) := by
  intro t c tD b1 b2
  have g := h t c tD b1 b2
  rw [e, nM_lml al be a' hn t c b1 b2, msc_lml] at g
  have g2 := lml_bd hb g
  rw [msc_msc, msc_len, nM_len] at g2
  exact g2
theorem ffl_dn : ∀ d, d ≤ 7 → (d + 1) * ffl d d ≤ ffl (d + 1) (d + 1) := by
  have h : ∀ d ∈ List.range 8, (d + 1) * ffl d d ≤ ffl (d + 1) (d + 1) := by decide +kernel
  intro d hd
  exact h d (List.mem_range.2 (by omega))
theorem xok_dn {X d : Nat} (h : xok X (d + 1)) (d7 : d ≤ 7) : xok ((d + 1) * X) d := by
  have a := ffl_dn d d7
  have b : X * ((d + 1) * ffl d d) ≤ X * ffl (d + 1) (d + 1) := Nat.mul_le_mul_left _ a
  have e : (d + 1) * X * ffl d d = X * ((d + 1) * ffl d d) := by grind
  unfold xok at h ⊢
  omega
theorem nr_tr {f g : List Int} {ka w l r : Rat} (k0 : 0 < ka) (w0 : 0 < w) (e : ∀ y : Rat, pev f y = ka * pev g (w * (y - 1))) (h : nr f l r) : nr g (w * (l - 1)) (w * (r - 1)) := by
  obtain ⟨d, d0, hd⟩ := h
  refine ⟨w * d, Rat.mul_pos w0 d0, fun x x1 x2 => ?_⟩
  have ex : x = w * ((x / w + 1) - 1) := by grind
  have y1 : r - d < x / w + 1 := by
    have : (r - d - 1) * w < x := by grind
    have := (Rat.lt_div_iff w0).2 this
    grind
  have y2 : x / w + 1 < r := by
    have : x < (r - 1) * w := by grind
    have := (Rat.div_lt_iff w0).2 this
    grind
  have q := hd (x / w + 1) y1 y2
  rw [e, e, ← ex] at q
  generalize pev g (w * (l - 1)) = A at q ⊢
  generalize pev g x = B at q ⊢
  refine Rat.not_le.1 fun z => ?_
  have : 0 ≤ (ka * ka) * (A * B) := Rat.mul_nonneg (Rat.mul_nonneg (by grind) (by grind)) z
  grind
theorem nr_linx {f g : List Int} {p q : Int} {l r : Rat} (hlr : l < r) (hq : 0 < q) (e : ∀ x : Rat, pev f x = (q * x - p) * pev g x) (hz : q * r - p ≤ 0) (h : nr f l r) : nr g l r := nr_lin (al := -(p : Rat)) (be := (q : Rat)) hlr (fun x => by rw [e x]; grind) (by
    have : ((0 : Int) : Rat) < (q : Rat) := Rat.intCast_lt_intCast.2 hq
    exact this) (by grind) h
/-- at a corner the Parter's first factor is the value there -/
theorem corner_0 {P : List Int} {d t : Nat} {c st : Int} (hP : pdb P (d + 1)) (b1 : -(2 ^ t) ≤ c) (b2 : c ≤ 2 ^ t) : pgt (nM (Af P d st) t c) 0 = 0 ↔ pev P (xv c (st + t)) = 0 := by
  obtain ⟨ka, k0, h⟩ := Af_P (st := st) hP
  have ev := nM_ev (Af P d st) ((c : Rat) / 2 ^ t) t c b1 b2
  have tp := q2p t
  rw [show (2 : Rat) ^ t * ((c : Rat) / 2 ^ t) - c = 0 by grind, pev_0, h, show (c : Rat) / 2 ^ t + 1 - 1 = (c : Rat) / 2 ^ t by grind, node_x] at ev
  have kp := q2p (t * ((Af P d st).length - 1))
  constructor
  · intro z
    rw [z, rat_i0] at ev
    rcases Rat.mul_eq_zero.1 ev.symm with q | q
    · grind
    · rcases Rat.mul_eq_zero.1 q with q | q
      · grind
      · exact q
  · intro z
    rw [z, Rat.mul_zero, Rat.mul_zero] at ev
    exact Rat.intCast_inj.1 (ev.trans rat_i0.symm)
theorem msc_cons (u : Int) (m : List Int) : (msc u (lml 0 1 m)).tail = msc u m := by
  rw [lml_z]
  show msc u (m.map (1 * ·)) = msc u m
  congr 1
  rw [show (fun x : Int => 1 * x) = id by funext x; exact Int.one_mul x, List.map_id]
/-- the row behind a drop -/
theorem drop_row {al be u c : Int} {a' : List Int} {t : Nat} (hn : a' ≠ []) (b1 : -(2 ^ t) ≤ c) (b2 : c ≤ 2 ^ t) (hz : 2 ^ t * (al + be) + be * c = 0) : (msc u (nM (lml al be a') t c)).tail = msc (u * be) (nM a' t c) := by
  rw [nM_lml al be a' hn t c b1 b2, hz, lml_z]
  show msc u ((nM a' t c).map (be * ·)) = _
  have : msc u (msc be (nM a' t c)) = msc (be * u) (nM a' t c) := msc_msc u be _
  rw [Int.mul_comm u be]; exact this
