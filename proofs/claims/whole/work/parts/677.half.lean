/-! HALVES -/
def wd (e : Int) : Rat := (2 : Rat) ^ (-e)
theorem wd_pos (e : Int) : 0 < wd e := Rat.zpow_pos (by grind)
theorem wd_half (e : Int) : wd e = 2 * wd (e + 1) := by
  unfold wd
  have h := Rat.zpow_add_one (q := 2) (by grind) (-(e + 1))
  rw [show -(e + 1) + 1 = -e by omega] at h
  rw [h]; grind
theorem wd_nat (k : Nat) : wd (k : Int) * (2 : Rat) ^ k = 1 := by
  unfold wd
  rw [Rat.zpow_neg, Rat.zpow_natCast]
  exact Rat.inv_mul_cancel _ (by have := rpow_ge1 (X := 2) (by grind) k; grind)
theorem hf_ev (h e : Int) : (hfp h e : Rat) / (hfq e : Rat) = (h : Rat) * wd e ∧ 0 < hfq e := by
  unfold hfp hfq
  by_cases c : e < 0
  · rw [if_pos c, if_pos c]
    obtain ⟨k, hk⟩ : ∃ k : Nat, -e = k := ⟨(-e).toNat, by omega⟩
    unfold wd
    rw [hk, Int.toNat_natCast, Rat.zpow_natCast, Rat.intCast_mul, Rat.intCast_pow, rat_i1]
    refine ⟨?_, by decide⟩
    have : ((2 : Int) : Rat) = 2 := rfl
    rw [this, Rat.div_def]
    have i1 : (1 : Rat)⁻¹ = 1 := by
      have := Rat.inv_mul_cancel (1 : Rat) (by grind)
      grind
    rw [i1]; grind
  · rw [if_neg c, if_neg c]
    obtain ⟨k, hk⟩ : ∃ k : Nat, e = k := ⟨e.toNat, by omega⟩
    subst hk
    rw [Int.toNat_natCast, Rat.intCast_pow]
    have t : ((2 : Int) : Rat) = 2 := rfl
    refine ⟨?_, Int.pow_pos (by decide)⟩
    rw [t, Rat.div_def]
    unfold wd
    rw [Rat.zpow_neg, Rat.zpow_natCast]
theorem chv_co {s t : Nat → Int} : ∀ {n : Nat}, (∀ k, k < n → s k = t k) → chv s n = chv t n
  | 0, _ => rfl
  | n + 1, h => by
    have ih := chv_co (n := n) (fun k hk => h k (by omega))
    have e := h n (by omega)
    show ((chv s n).1 + (if s n = 0 then 0 else if (chv s n).2 = 0 then 0 else if s n = (chv s n).2 then 0 else 1), if s n = 0 then (chv s n).2 else s n) = ((chv t n).1 + (if t n = 0 then 0 else if (chv t n).2 = 0 then 0 else if t n = (chv t n).2 then 0 else 1), if t n = 0 then (chv t n).2 else t n)
    rw [ih, e]
theorem cha_v {c : Nat → List Int} {N : Nat} {h e : Int} (hN : 1 ≤ N) (hl : ∀ k, k < N → 1 ≤ (c k).length) : cha c N h e = vst c (N - 1) ((h : Rat) * wd e) := by
  unfold cha vst
  have hf := hf_ev h e
  rw [show N - 1 + 1 = N by omega]
  refine congrArg Prod.fst (chv_co (fun k hk => ?_))
  rw [psg_ev (hl k hk) hf.2, hf.1]
theorem lim_2p {X : Int} {k : Nat} (h : X.natAbs ≤ 2 ^ k) : lim X ≤ k / 29 + 1 := by
  refine Nat.le_trans (lim_mono (Y := 2 ^ k) ?_) (lim_p2 k)
  rw [Int.natAbs_pow]
  exact h
/-- a numerator that belongs to 2 ^ e, between -2 ^ 93 and 2 ^ 93 -/
def hbd (h e : Int) : Prop := -93 ≤ e ∧ e ≤ 700 ∧ h.natAbs ≤ 2 ^ (e + 93).toNat
theorem hbd_lim {h e : Int} (hb : hbd h e) : lim h ≤ 28 := by
  have := lim_2p hb.2.2
  have := hb.1
  have := hb.2.1
  omega
theorem hbd_p {h e : Int} (hb : hbd h e) : lim (hfp h e) ≤ 30 := by
  unfold hfp
  by_cases c : e < 0
  · rw [if_pos c]
    have a := lim_2p (X := 2 ^ (-e).toNat) (k := (-e).toNat) (by rw [Int.natAbs_pow]; exact Nat.le_refl _)
    have b := lim_2p hb.2.2
    have d := lim_mul h (2 ^ (-e).toNat)
    have := hb.1
    omega
  · rw [if_neg c]
    have := hbd_lim hb
    omega
theorem half_ok {s : im_S} {x h e : Int} {c : Nat → List Int} {N : Nat} {Q : Int → im_S → Prop} (hc : chn s c N 56) (hN : 1 ≤ N) (hx : nm s x h) (hb : hbd h e) (h0 : 0 ≤ wgf s 24) (hm : wgf s 24 + 50000 ≤ 684000) (hQ : ∀ s', sb s s' → Q (vst c (N - 1) ((h : Rat) * wd e)) s') : W_changesAtHalf x e s Q := by
  unfold W_changesAtHalf
  have pw2 : ∀ E : Nat, E ≤ 700 → lim (2 ^ E) ≤ 25 := fun E hE => by
    have := lim_p2 E
    omega
  have pw3 : ∀ E : Nat, E ≤ 700 → ((E : Int) + 40) * (lim (2 ^ E) + 3) ≤ 740 * 28 := fun E hE => by
    have a := pw2 E hE
    have b : (E + 40) * (lim (2 ^ E) + 3) ≤ 740 * 28 := Nat.mul_le_mul (by omega) (by omega)
    exact Int.ofNat_le.2 b
  have l1 := lim_one
  have hl := hbd_lim hb
  have hp := hbd_p hb
  have he := hb.1
  have he2 := hb.2.1
  rw [← cha_v hN (fun k hk => (hc.2.2 k hk).2.2)] at hQ
  unfold cha hfp hfq at hQ
  unfold hfp at hp
  refine ⟨fun c1 => ⟨⟨by omega, by omega⟩, ?_⟩, fun c1 => ?_⟩
  · rw [if_pos c1] at hp
    rw [if_pos c1, if_pos c1] at hQ
    obtain ⟨E, hE⟩ : ∃ E : Nat, -e = E := ⟨(-e).toNat, by omega⟩
    rw [hE, Int.toNat_natCast] at hp hQ
    rw [hE]
    have q1 := pw2 E (by omega)
    have q2 := pw3 E (by omega)
    refine powerOfTwo_ok h0 (by omega) (by omega) (fun s1 a1 a2 a3 => by_ok (st_nm a1 hx) a2 (by omega) (by omega) (fun s2 b1 b2 b3 => whole_ok ⟨by decide, by decide⟩ (by omega) (by omega) (fun s3 d1 d2 d3 => ?_)))
    have s3s := st_tr a1 (st_tr b1 d1)
    refine changesAt_ok (K := 30) (st_chn s3s hc) (st_nm d1 b2) d2 hp (by omega) (by omega) (by omega) (fun s4 g1 s5 e5 => ?_)
    refine hQ s5 ?_
    rw [e5]
    exact sb_back (st_tr s3s g1.1)
  · rw [if_neg c1] at hp
    rw [if_neg c1, if_neg c1] at hQ
    obtain ⟨E, hE⟩ : ∃ E : Nat, e = E := ⟨e.toNat, by omega⟩
    rw [hE, Int.toNat_natCast] at hQ
    rw [hE]
    have q1 := pw2 E (by omega)
    have q2 := pw3 E (by omega)
    refine powerOfTwo_ok h0 (by omega) (by omega) (fun s1 a1 a2 a3 => ?_)
    refine changesAt_ok (K := 30) (st_chn a1 hc) (st_nm a1 hx) a2 hp (by omega) (by omega) (by omega) (fun s4 g1 s5 e5 => ?_)
    refine hQ s5 ?_
    rw [e5]
    exact sb_back (st_tr a1 g1.1)
theorem hbd_2 {h e : Int} (hb : hbd h e) (he : e < 700) : hbd (h * 2) (e + 1) ∧ (hbd (h + 1) e → hbd (h * 2 + 1) (e + 1)) := by
  obtain ⟨h1, h2, h3⟩ := hb
  have e1 : (2 : Nat) ^ (e + 1 + 93).toNat = 2 * 2 ^ (e + 93).toNat := by
    rw [show (e + 1 + 93).toNat = (e + 93).toNat + 1 by omega, Nat.pow_succ, Nat.mul_comm]
  refine ⟨⟨by omega, by omega, ?_⟩, fun hb2 => ⟨by omega, by omega, ?_⟩⟩
  · rw [e1]; omega
  · have := hb2.2.2
    rw [e1]; omega
/-! a fraction that is a root has small numerator and denominator -/
theorem frac_num {P : List Int} {r : Rat} (lP : lnz P) (P1 : 1 ≤ P.length) (hr : pev P r = 0) : (r.den : Int) ∣ pgt P (P.length - 1) := by
  obtain ⟨n, hn⟩ : ∃ n, P.length = n + 1 := ⟨P.length - 1, by omega⟩
  have d0 : (0 : Int) < (r.den : Int) := by have := r.den_pos; omega
  have dn : ((r.den : Int) : Rat) ≠ 0 := fun q => by
    have := Rat.intCast_eq_zero_iff.1 q
    omega
  have er : ((r.num : Int) : Rat) / ((r.den : Int) : Rat) = r := by
    rw [← Rat.divInt_eq_div]
    exact Rat.num_divInt_den r
  have z := phm_ev (P := P) (p := r.num) (q := (r.den : Int)) (n := n) dn n (Nat.le_refl _)
  rw [er, Nat.sub_self] at z
  have e : pmk (n + 1) (fun i => pgt P (0 + i)) = P := by
    rw [pmk_co (g := pgt P) (fun i _ => by rw [Nat.zero_add]), ← hn]
    exact pmk_self P
  rw [e, hr, Rat.mul_zero] at z
  have z0 : phm P r.num (r.den : Int) n n = 0 := Rat.intCast_eq_zero_iff.1 z
  have go : ∀ j : Nat, j ≤ n → (r.den : Int) ∣ phm P r.num (r.den : Int) n j - pgt P n * r.num ^ j := by
    intro j
    induction j with
    | zero =>
      intro _
      show (r.den : Int) ∣ pgt P n - pgt P n * r.num ^ 0
      rw [Int.pow_zero, Int.mul_one, Int.sub_self]
      exact Int.dvd_zero _
    | succ j ih =>
      intro hj
      obtain ⟨t, ht⟩ := ih (by omega)
      refine ⟨t * r.num + pgt P (n - (j + 1)) * (r.den : Int) ^ j, ?_⟩
      show phm P r.num (r.den : Int) n j * r.num + pgt P (n - (j + 1)) * (r.den : Int) ^ (j + 1) - pgt P n * r.num ^ (j + 1) = _
      rw [Int.pow_succ, Int.pow_succ]
      have : phm P r.num (r.den : Int) n j = pgt P n * r.num ^ j + (r.den : Int) * t := by omega
      rw [this]; grind
  have g := go n (Nat.le_refl _)
  rw [z0, Int.zero_sub] at g
  have g2 : (r.den : Int) ∣ pgt P n * r.num ^ n := (Int.dvd_neg).1 g
  have cop1 : Nat.Coprime r.den r.num.natAbs := (Nat.Coprime.symm r.reduced)
  have cop2 : Nat.Coprime r.den (r.num.natAbs ^ n) := Nat.Coprime.pow_right n cop1
  have g3 : r.den ∣ (pgt P n).natAbs * r.num.natAbs ^ n := by
    have := Int.natAbs_dvd_natAbs.2 g2
    rw [Int.natAbs_mul, Int.natAbs_pow] at this
    exact this
  rw [hn]
  exact Int.ofNat_dvd_left.2 (Nat.Coprime.dvd_of_dvd_mul_right cop2 g3)
