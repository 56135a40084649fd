/-! ALL TURNS LIE WITHIN THE REACH -/
theorem B_rcl {P : List Int} {d : Nat} {st : Int} (c : -st < 30) (hA : -st < 30 → ∀ i, 1 ≤ i → i ≤ d → rcA P d (-st) i) : rcl (pgt P d * 2 ^ ebn st d d).natAbs (Bl P d st) :=
  rcl_mk (f := fun i => pgt P i * 2 ^ ebn st d i) d (fun i i1 i2 => by
      have h := hA c i i1 i2
      unfold rcA at h
      show (pgt P (d - i) * 2 ^ ebn st d (d - i)).natAbs * 2 ^ i < (pgt P d * 2 ^ ebn st d d).natAbs
      have cast : ∀ (x : Int) (n : Nat), (((x * 2 ^ n).natAbs : Nat) : Int) = (x.natAbs : Int) * 2 ^ n := fun x n => by
        rw [Int.natAbs_mul, Int.natCast_mul, Int.natAbs_pow, Int.natCast_pow]; rfl
      have goal : (((pgt P (d - i) * 2 ^ ebn st d (d - i)).natAbs * 2 ^ i : Nat) : Int) < (((pgt P d * 2 ^ ebn st d d).natAbs : Nat) : Int) := by
        rw [Int.natCast_mul, cast, cast, Int.natCast_pow]
        show ((pgt P (d - i)).natAbs : Int) * 2 ^ ebn st d (d - i) * 2 ^ i < ((pgt P d).natAbs : Int) * 2 ^ ebn st d d
        unfold ebn
        by_cases c0 : 0 ≤ st
        · rw [if_pos c0, if_pos c0, Nat.sub_self, show d - (d - i) = i by omega]
          have e1 : (-(-st * (i : Int))).toNat = (st * (i : Int)).toNat := by congr 1; grind
          have n1 : 0 ≤ st * (i : Int) := Int.mul_nonneg c0 (by omega)
          have e2 : (-st * (i : Int)).toNat = 0 := by rw [Int.neg_mul]; omega
          rw [e1, e2] at h
          have e3 : (st * ((0 : Nat) : Int)).toNat = 0 := by show (st * 0).toNat = 0; rw [Int.mul_zero]; rfl
          rw [e3]
          have : ((pgt P (d - i)).natAbs : Int) * 2 ^ (st * (i : Int)).toNat * 2 ^ i = ((pgt P (d - i)).natAbs : Int) * 2 ^ i * 2 ^ (st * (i : Int)).toNat := by grind
          omega
        · rw [if_neg c0, if_neg c0]
          have n1 : 0 ≤ -st * (i : Int) := Int.mul_nonneg (by omega) (by omega)
          have e2 : (-(-st * (i : Int))).toNat = 0 := by omega
          rw [e2, Int.pow_zero, Int.mul_one] at h
          have n2 : 0 ≤ -st * ((d - i : Nat) : Int) := Int.mul_nonneg (by omega) (by omega)
          have e4 : (-st * (d : Int)).toNat = (-st * ((d - i : Nat) : Int)).toNat + (-st * (i : Int)).toNat := by
            have : -st * (d : Int) = -st * ((d - i : Nat) : Int) + -st * (i : Int) := by
              rw [← Int.mul_add]; congr 1; omega
            omega
          rw [e4, Int.pow_add]
          have g := Int.mul_lt_mul_of_pos_right h (p2p (-st * ((d - i : Nat) : Int)).toNat)
          have x1 : ((pgt P (d - i)).natAbs : Int) * 2 ^ i * 2 ^ (-st * ((d - i : Nat) : Int)).toNat = ((pgt P (d - i)).natAbs : Int) * 2 ^ (-st * ((d - i : Nat) : Int)).toNat * 2 ^ i := by grind
          have x2 : ((pgt P d).natAbs : Int) * 2 ^ (-st * (i : Int)).toNat * 2 ^ (-st * ((d - i : Nat) : Int)).toNat = ((pgt P d).natAbs : Int) * (2 ^ (-st * ((d - i : Nat) : Int)).toNat * 2 ^ (-st * (i : Int)).toNat) := by grind
          omega
      omega)
theorem farc_st {P : List Int} {d : Nat} {st : Int} (hP : pdb P (d + 1)) (L0 : pgt P d ≠ 0) (hp : pat P) (s1 : -30 ≤ st) (hA : -st < 30 → ∀ i, 1 ≤ i → i ≤ d → rcA P d (-st) i) : farc P (wR st) := by
  by_cases c : -st < 30
  · have rc := B_rcl c hA
    obtain ⟨ka, k0, hk⟩ := Bl_ev (st := st) hP
    have Lp : 1 ≤ (pgt P d * 2 ^ ebn st d d).natAbs := by
      have := Int.mul_ne_zero L0 (Int.ne_of_gt (p2p (ebn st d d)))
      omega
    have W := wR_pos st
    have T := q2p ((Bl P d st).length - 1)
    obtain ⟨e, he⟩ : ∃ e : Rat, e = (2 * (ka * 2 ^ ((Bl P d st).length - 1)))⁻¹ := ⟨_, rfl⟩
    have dp : 0 < 2 * (ka * 2 ^ ((Bl P d st).length - 1)) := Rat.mul_pos (by decide) (Rat.mul_pos k0 T)
    have e0 : 0 < e := by rw [he]; exact Rat.inv_pos.2 dp
    have e1 : 2 * (ka * 2 ^ ((Bl P d st).length - 1)) * e = 1 := by rw [he]; exact Rat.mul_inv_cancel _ (by grind)
    intro X
    refine ⟨e, e0, fun x _ hx r => ?_⟩
    have wn : wR st ≠ 0 := by grind
    have ez : wR st * (x / wR st) = x := by
      have := Rat.div_mul_cancel (a := x) wn
      grind
    have hz : 1 ≤ x / wR st ∨ x / wR st ≤ -1 := by
      rcases hx with q | q
      · left
        refine Rat.not_lt.1 fun z => ?_
        have := (Rat.div_lt_iff W).1 z
        grind
      · right
        refine Rat.not_lt.1 fun z => ?_
        have := (Rat.lt_div_iff W).1 z
        grind
    obtain ⟨V, V0, hV, hL⟩ := rcl_far hz _ rc
    rw [hk, ez] at hV
    have L1 : (1 : Rat) ≤ (((pgt P d * 2 ^ ebn st d d).natAbs : Nat) : Rat) := rat_le Lp
    obtain ⟨r1, r2⟩ := r
    have m1 := Rat.mul_le_mul_of_nonneg_left r2 (Rat.le_of_lt k0)
    have m2 := Rat.mul_le_mul_of_nonneg_left r1 (Rat.le_of_lt k0)
    have Ve : V ≤ ka * e := by rcases hV with q | q <;> grind
    have m3 := Rat.mul_le_mul_of_nonneg_left Ve (Rat.le_of_lt T)
    generalize (2 : Rat) ^ ((Bl P d st).length - 1) = G at m3 hL e1
    generalize (((pgt P d * 2 ^ ebn st d d).natAbs : Nat) : Rat) = N at L1 hL
    grind
  · have es : st = -30 := by omega
    have w : wR st = 1073741824 := by
      rw [es]
      have a : wR (-30) = 1 * 2 ^ 30 := rfl
      rw [a]
      have e : ((2 ^ 30 : Nat) : Rat) = 2 ^ 30 := by rw [Rat.natCast_pow]; rfl
      rw [← e, Rat.one_mul]
      rfl
    rw [w]
    exact farc_pat hp
/-! a piece, by its degree: never two changes at 256 bits -/
theorem p7_bd {P A Q : List Int} (hP : pdb P 8) (top : pgt P 7 ≠ 0) (e : ∀ x : Rat, pev A x = pev P x * pev Q x) (a9 : pdb A 9) (a0 : ∃ k, pgt A k ≠ 0) (ab : pab A 1000000000) : pab P 8000000000 := by
  have q2 : pdb Q 2 := dcan (Z := Q) (A := P) (T := A) (a := 7) (fun x => by rw [e x]; exact Rat.mul_comm _ _) hP top a9
  obtain ⟨P8, h8⟩ : ∃ P8, P8 = pmk 8 (pgt P) := ⟨_, rfl⟩
  have g8 : ∀ k, pgt P8 k = pgt P k := fun k => by rw [h8]; exact pdb_tr hP k
  have l8 : P8.length = 8 := by rw [h8, pmk_len]
  have evQ : ∀ x : Rat, pev Q x = (pgt Q 0 : Rat) + x * (pgt Q 1 : Rat) := lin9_ev (fun k => q2 (k + 2) (by omega))
  have key : ∀ (al be : Int) (B : List Int), 0 < be → pab B 1000000000 → (∀ x : Rat, pev B x = (al + be * x) * pev P x) → pab P 8000000000 := by
    intro al be B hb hB he k
    have eq : ∀ k, pgt (lml al be P8) k = pgt B k := pev_inj (fun x => by rw [lml_ev, he x, pev_eq g8 x])
    have := lml_bd (al := al) (be := be) (m := P8) (X := 1000000000) hb (fun k => by rw [eq k]; exact hB k) k
    rw [msc_gt, Int.natAbs_mul, g8, l8] at this
    have b1 : 1 ≤ be.natAbs := by omega
    have m : 1 * (pgt P k).natAbs ≤ be.natAbs * (pgt P k).natAbs := Nat.mul_le_mul_right _ b1
    omega
  rcases Int.lt_trichotomy (pgt Q 1) 0 with c | c | c
  · refine key (-(pgt Q 0)) (-(pgt Q 1)) (psm (-1) A) (by omega) (fun k => by rw [psm_gt, Int.natAbs_mul]; have := ab k; show 1 * _ ≤ _; omega) (fun x => ?_)
    rw [m1_ev, e x, evQ x, Rat.intCast_neg, Rat.intCast_neg]
    generalize pev P x = V
    grind
  · have q0 : pgt Q 0 ≠ 0 := fun z => by
      obtain ⟨k, hk⟩ := a0
      refine hk (pev_zero (fun x => ?_) k)
      rw [e x, evQ x, c, z, rat_i0]
      grind
    intro k
    have eq : pgt A k = pgt (psm (pgt Q 0) P) k := pev_inj (fun x => by rw [e x, evQ x, psm_ev, c, rat_i0]; grind) k
    rw [psm_gt] at eq
    have b := ab k
    rw [eq, Int.natAbs_mul] at b
    have b1 : 1 ≤ (pgt Q 0).natAbs := by omega
    have m : 1 * (pgt P k).natAbs ≤ (pgt Q 0).natAbs * (pgt P k).natAbs := Nat.mul_le_mul_right _ b1
    omega
  · refine key (pgt Q 0) (pgt Q 1) A c ab (fun x => ?_)
    rw [e x, evQ x]
    generalize pev P x = V
    grind
theorem pat_H {P : List Int} {m : Nat} (hp : pat P) (m1 : 1 ≤ m) (hP : pdb P (m + 2)) (top : pgt P (m + 1) ≠ 0) (m7 : m ≤ 7) : ∃ H : Nat, pab P H ∧ tabP m H (2 ^ 256 * 2 ^ 256) := by
  obtain ⟨g, a, ga, f1, _, _, _, _, bF, _, b8, _, f2, _⟩ := pat_sz (F := P) (G := P) (F1 := [1]) hp (fun x => by
    show pev P x = pev P x * (((1 : Int) : Rat) + x * 0)
    rw [rat_i1]
    grind)
  have ed : g + a = m + 1 := by
    rcases Nat.lt_trichotomy (g + a) (m + 1) with q | q | q
    · exact absurd (f1 (m + 1) (by omega)) top
    · exact q
    · exact absurd (hP (g + a) (by omega)) f2
  by_cases c7 : m = 7
  · subst c7
    exact ⟨1000000000, b8 (by omega), tab_7⟩
  · by_cases c6 : m = 6
    · subst c6
      obtain ⟨A, Q, e, a9, a0, ab⟩ := hp
      exact ⟨8000000000, p7_bd hP top e a9 a0 ab, tab_6⟩
    · exact ⟨310000000000, bF, tab_n m m1 (by omega)⟩
theorem nt_pat {P row : List Int} {d : Nat} {K l : Rat} (hp : pat P) (sq : sqf P) (hP : pdb P (d + 1)) (top : pgt P d ≠ 0) (d8 : d ≤ 8) (hr : row.length = d + 1) (K0 : 0 < K) (e : ∀ y : Rat, pev row y = K * pev P (l + w256 * y)) (hl : rb l 2147483648) : pV row ≤ 1 := by
  by_cases c : d ≤ 1
  · have := vr_len0 (pT row)
    rw [pT_len, hr] at this
    have e : pV row = vr 0 (pT row) := rfl
    omega
  · obtain ⟨m, hm⟩ : ∃ m, d = m + 1 := ⟨d - 1, by omega⟩
    subst hm
    obtain ⟨H, hH, tab⟩ := pat_H hp (by omega) hP top (by omega)
    exact no_two (by omega) (by omega) hP top sq hH tab hr K0 e hl
theorem zero_c {P row : List Int} {K l w : Rat} (K0 : 0 < K) (w0 : 0 < w) (e : ∀ z : Rat, pev row z = K * pev P (l + w * z)) (h : pev P l ≠ 0) (hv : pV row = 0) {c : Rat → Int} (cc : cut c) (ct : rtc P c) (q : c l ≠ -1) : c (l + w) ≠ -1 := by
  intro z
  obtain ⟨t, ht, hs, hp⟩ := sg_ex h
  exact rtc_no (l := l) (r := l + w) cc q (by rw [z]; decide) ht (fun x x1 x2 => node_zero ht K0 w0 e hp hv (Rat.le_of_lt x1) x2) (fun _ => hs) (fun z0 => by omega) ct
theorem xv_nx (c b : Int) : xv (c + 1) b = xv c b + wR b := by
  rw [xv_mul, xv_mul, Rat.intCast_add, rat_i1]
  grind
/-- all changes lie on the left: no turn on the right -/
theorem tail_no {P : List Int} {d t : Nat} {st : Int} (d8 : d ≤ 8) (hl : P.length = d + 1) : ∀ (j : Nat) (c : Int), -(2 ^ t) ≤ c → c + j = 2 ^ t → d ≤ LSv (Af P d st) t c → pev P (xv c (st + t)) ≠ 0 → ∀ c0 : Rat → Int, cut c0 → rtc P c0 → c0 (xv c (st + t)) ≠ -1 → c0 (xv (2 ^ t) (st + t)) ≠ -1
  | 0, c, _, b2, _, _, c0, _, _, h => by
    rw [← b2, show c + ((0 : Nat) : Int) = c by omega]
    exact h
  | j + 1, c, b1, b2, hL, h0, c0, cc, ct, h => by
    have lA := Af_len P d st
    have hP : pdb P (d + 1) := by have := pdb_len P; rw [hl] at this; exact this
    have st1 := LSv_step lA d8 t c b1 (by omega)
    have le1 := LSv_le lA d8 t (c + 1) (by omega) (by omega)
    have v0 : vN (Af P d st) t c = 0 := by omega
    have L1 : d ≤ LSv (Af P d st) t (c + 1) := by omega
    have h1 : pev P (xv (c + 1) (st + t)) ≠ 0 := fun z => by
      obtain ⟨d', hd'⟩ : ∃ d', d = d' + 1 := ⟨d - 1, by
        refine (Nat.sub_add_cancel (Nat.pos_of_ne_zero fun q => ?_)).symm
        subst q
        have cs : ∀ x : Rat, pev P x = (pgt P 0 : Rat) := cst9_ev (fun k => hP (k + 1) (by omega))
        rw [cs] at z h0
        exact h0 z⟩
      subst hd'
      obtain ⟨P', p, q, al, be, q0, hg, hz, ev, l', b0, eA', z2, ls⟩ := LSv_0 hl d8 z (by omega) (by omega)
      have := LSv_le (Af_len P' d' st) (by omega) t (c + 1) (by omega) (by omega)
      omega
    obtain ⟨K, K0, e⟩ := node_ev (st := st) hP b1 (by omega)
    have nx := zero_c K0 (wR_pos (st + t)) e h0 v0 cc ct h
    rw [← xv_nx] at nx
    exact tail_no d8 hl j (c + 1) (by omega) (by omega) L1 h1 c0 cc ct nx
