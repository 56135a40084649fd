theorem rone_pow : ∀ n : Nat, (1 : Rat) ^ n = 1
  | 0 => Rat.pow_zero _
  | n + 1 => by rw [Rat.pow_succ, rone_pow n, Rat.one_mul]
/-! part1 BY VALUE: the factors of an atom, each with how often it counts -/
/-- G divides the derivative of G W -/
def yu (G W : List Int) : Prop := qd G (pdl (pmul G W))
theorem yu_s {G W Y O G1 : List Int} (h : yu G W) (sW : sqf W) (hY : gcdof W G Y) (e1 : ∀ x : Rat, pev W x = pev Y x * pev O x) (e2 : ∀ x : Rat, pev G x = pev Y x * pev G1 x) : yu G1 Y := by
  obtain ⟨c, K, c0, e⟩ := h
  have cO : cop O G1 := cop_q hY e1 e2
  obtain ⟨k, u, v, k0, eb⟩ := cO
  have nY : nzp Y := ⟨Y.length - 1, hY.2.1 _ (by have := hY.1; omega)⟩
  -- G | G' W, so G1 | G' O
  have z := fun x => can_nz (G := Y) (Z := padd (psm c (pmul (pdl (pmul G1 Y)) O)) (psm (-1) (pmul G1 (padd K (psm (-c) (pdl W)))))) nY (fun x => by
    have a := e x
    have d : pev (pdl (pmul G1 Y)) x = pev (pdl G) x := pdl_co (fun k => pev_inj (fun x => by rw [pmul_ev, e2 x]; grind) k) x
    rw [pdl_mul] at a
    have f1 := e1 x
    have f2 := e2 x
    rw [padd_ev, psm_ev, psm_ev, pmul_ev, pmul_ev, padd_ev, psm_ev, d, Rat.intCast_neg, Rat.intCast_neg, rat_i1]
    generalize pev (pdl G) x = G' at *
    generalize pev (pdl W) x = W' at *
    generalize pev W x = W at *
    generalize pev G x = G at *
    generalize pev Y x = Y at *
    generalize pev O x = O at *
    generalize pev G1 x = G1 at *
    generalize pev K x = K at *
    generalize (c : Rat) = c at *
    subst f1
    subst f2
    have : (c * (G' * O) + -1 * (G1 * (K + -c * W'))) * Y = c * (G' * (Y * O) + Y * G1 * W') - Y * G1 * K := by grind
    rw [this, a]
    grind) x
  refine ⟨c * k, padd (psm c (pmul v (pdl (pmul G1 Y)))) (pmul u (padd K (psm (-c) (pdl W)))), Int.mul_ne_zero c0 k0, fun x => ?_⟩
  have a := z x
  have b := eb x
  rw [padd_ev, psm_ev, psm_ev, pmul_ev, pmul_ev G1, show ((-1 : Int) : Rat) = -1 from rfl] at a
  rw [Rat.intCast_mul, b, padd_ev, psm_ev, pmul_ev, pmul_ev u]
  generalize pev (pdl (pmul G1 Y)) x = D at *
  generalize pev (padd K (psm (-c) (pdl W))) x = J at *
  generalize pev O x = O at *
  generalize pev G1 x = G1 at *
  generalize pev u x = u at *
  generalize pev v x = v at *
  generalize (c : Rat) = c at *
  have : c * (D * O) = G1 * J := by grind
  have : c * (u * O + v * G1) * D = u * (c * (D * O)) + c * v * G1 * D := by grind
  grind
theorem yu_e {G W : List Int} (h : yu G W) (gG : gd G) (gW : gd W) (l : W.length = 1) : G.length = 1 := by
  refine Classical.byContradiction fun q => ?_
  have G2 : 2 ≤ G.length := by have := gG.1; omega
  have := gcd_more (F := pmul G W) (G := G) (W := W) (D := pdl (pmul G W)) (Y := W) (ga := 1) gG gW (fun x => pmul_ev G W x) (fun x => by rw [rat_i1]; grind) h ⟨gW.1, gW.2.2.1, gW.2.2.2.1, gW.2.2.2.2, qd_rfl W, ⟨1, G, by decide, fun x => by rw [gd_one gW l x, rat_i1]⟩, 1, [1], [], by decide, fun x => by
    rw [rat_i1, pev_c1]
    show 1 * pev W x = 1 * pev W x + 0 * pev G x
    grind⟩ G2
  omega
/-- what the loop keeps: the atom is the product of the factors found, W to the j, and G -/
def yz (F W0 : List Int) (s : im_S) (i : Int) (n m j : Nat) (c : Nat → List Int) (G W : List Int) : Prop := ∃ tm : Nat → Nat, (∀ q : Nat, q < m → wga s 604 ((n + q : Nat) : Int) = i ∧ wga s 605 ((n + q : Nat) : Int) = (tm q : Int)) ∧ (∀ x : Rat, pev F x = PRd (fun q => c (n + q)) tm x m * pev W x ^ j * pev G x) ∧ ∀ x : Rat, pev W0 x = PRd (fun q => c (n + q)) (fun _ => 1) x m * pev W x
/-- what it leaves -/
def yE (s s' : im_S) (F W0 : List Int) (i : Int) (n n' : Nat) (c c' : Nat → List Int) : Prop := (∀ k, k < n → c' k = c k) ∧ (∀ k : Int, 0 ≤ k → k < n → wga s' 604 k = wga s 604 k) ∧ (∀ k : Int, 0 ≤ k → k < n → wga s' 605 k = wga s 605 k) ∧ ∃ (m : Nat) (tm : Nat → Nat), n' = n + m ∧ (∀ q : Nat, q < m → wga s' 604 ((n + q : Nat) : Int) = i ∧ wga s' 605 ((n + q : Nat) : Int) = (tm q : Int)) ∧ (∀ x : Rat, pev F x = PRd (fun q => c' (n + q)) tm x m) ∧ ∀ x : Rat, pev W0 x = PRd (fun q => c' (n + q)) (fun _ => 1) x m
theorem yz_0 {F G W : List Int} {s : im_S} {i : Int} {n : Nat} {c : Nat → List Int} (h : ∀ x : Rat, pev F x = pev G x * pev W x) : yz F W s i n 0 1 c G W := by
  refine ⟨fun _ => 0, fun q hq => by omega, fun x => ?_, fun x => ?_⟩
  · show pev F x = 1 * pev W x ^ 1 * pev G x
    rw [h x, Rat.pow_succ, Rat.pow_zero]; grind
  · show pev W x = 1 * pev W x
    rw [Rat.one_mul]
theorem yz_E {F W0 G W : List Int} {s s2 s' : im_S} {i : Int} {n m j : Nat} {c c' : Nat → List Int} (h : yz F W0 s2 i n m j c' G W) (hy : yu G W) (gW : gd W) (l : W.length = 1) (gG : gd G) (hc : ∀ k, k < n → c' k = c k) (r4 : ∀ k : Int, 0 ≤ k → k < n → wga s' 604 k = wga s 604 k) (r5 : ∀ k : Int, 0 ≤ k → k < n → wga s' 605 k = wga s 605 k) (d7 : ∀ k : Int, wga s' 604 k = wga s2 604 k) (d8 : ∀ k : Int, wga s' 605 k = wga s2 605 k) : yE s s' F W0 i n (n + m) c c' := by
  obtain ⟨tm, h1, h2, h3⟩ := h
  have lG := yu_e hy gG gW l
  refine ⟨hc, r4, r5, m, tm, rfl, fun q hq => by rw [d7, d8]; exact h1 q hq, fun x => ?_, fun x => ?_⟩
  · rw [h2 x, gd_one gW l x, gd_one gG lG x, rone_pow, Rat.mul_one, Rat.mul_one]
  · rw [h3 x, gd_one gW l x, Rat.mul_one]
theorem yz_G {F W0 G Y G1 : List Int} {s s' : im_S} {i : Int} {n m j : Nat} {c : Nat → List Int} (h : yz F W0 s i n m j c G Y) (e : ∀ x : Rat, pev G x = pev Y x * pev G1 x) (d7 : ∀ k : Int, wga s' 604 k = wga s 604 k) (d8 : ∀ k : Int, wga s' 605 k = wga s 605 k) : yz F W0 s' i n m (j + 1) c G1 Y := by
  obtain ⟨tm, h1, h2, h3⟩ := h
  refine ⟨tm, fun q hq => by rw [d7, d8]; exact h1 q hq, fun x => ?_, h3⟩
  rw [h2 x, e x, Rat.pow_succ]
  grind
theorem yz_same {F W0 G W Y O : List Int} {s s' : im_S} {i : Int} {n m j : Nat} {c : Nat → List Int} (h : yz F W0 s i n m j c G W) (e : ∀ x : Rat, pev W x = pev Y x * pev O x) (eO : ∀ x : Rat, pev O x = 1) (d7 : ∀ k : Int, wga s' 604 k = wga s 604 k) (d8 : ∀ k : Int, wga s' 605 k = wga s 605 k) : yz F W0 s' i n m j c G Y := by
  obtain ⟨tm, h1, h2, h3⟩ := h
  have f : ∀ x : Rat, pev W x = pev Y x := fun x => by rw [e x, eO x, Rat.mul_one]
  exact ⟨tm, fun q hq => by rw [d7, d8]; exact h1 q hq, fun x => by rw [h2 x, f x], fun x => by rw [h3 x, f x]⟩
theorem yz_own {F W0 G W Y O : List Int} {s s' : im_S} {i : Int} {n m j : Nat} {c c' : Nat → List Int} (h : yz F W0 s i n m j c G W) (e : ∀ x : Rat, pev W x = pev Y x * pev O x) (hO : c' (n + m) = O) (hc : ∀ k, k ≠ n + m → c' k = c k) (d7 : ∀ k : Int, 0 ≤ k → k < ((n + m : Nat) : Int) → wga s' 604 k = wga s 604 k) (d8 : ∀ k : Int, 0 ≤ k → k < ((n + m : Nat) : Int) → wga s' 605 k = wga s 605 k) (r4 : wga s' 604 ((n + m : Nat) : Int) = i) (r5 : wga s' 605 ((n + m : Nat) : Int) = (j : Int)) : yz F W0 s' i n (m + 1) j c' G Y := by
  obtain ⟨tm, h1, h2, h3⟩ := h
  have co : ∀ q, q < m → c' (n + q) = c (n + q) := fun q hq => hc _ (by omega)
  refine ⟨fun q => if q = m then j else tm q, fun q hq => ?_, fun x => ?_, fun x => ?_⟩
  · by_cases z : q = m
    · subst z
      try dsimp only
      rw [if_pos rfl]; exact ⟨r4, r5⟩
    · try dsimp only
      rw [if_neg z, d7 _ (by omega) (by omega), d8 _ (by omega) (by omega)]
      exact h1 q (by omega)
  · rw [PRd_new (p := fun q => c (n + q)) (m := tm) (p' := fun q => c' (n + q)) (m' := fun q => if q = m then j else tm q) (n := m) (k := j) (if_pos rfl) (fun q hq => ⟨by rw [co q hq], if_neg (by omega)⟩), h2 x, e x, hO, rmul_pow]
    grind
  · rw [PRd_new (p := fun q => c (n + q)) (m := fun _ => 1) (p' := fun q => c' (n + q)) (m' := fun _ => 1) (n := m) (k := 1) rfl (fun q hq => ⟨by rw [co q hq], rfl⟩), h3 x, e x, hO, Rat.pow_succ, Rat.pow_zero]
    grind
theorem part1_68v {s s1 : im_S} {i g0 w0 ga : Int} {F D G0 W0 : List Int} {n : Nat} {c : Nat → List Int} {Q : im_S → Prop} (hi : 0 ≤ i ∧ i < 10) (hfi : fi s n c) (hn : dsm c n ≤ 72) (hs : pw pF1 pR1 (wgf s 24) (wgf s 28) s s1) (h24 : wgf s 24 ≤ wgf s1 24) (h24' : wgf s1 24 ≤ wgf s 24 + 52000) (h28 : wgf s 28 ≤ wgf s1 28) (h28' : wgf s1 28 ≤ wgf s 28 + 14) (h36 : wgf s1 36 = n) (hr3 : ∀ k : Int, wga s1 603 k = wga s 603 k) (hr4 : ∀ k : Int, wga s1 604 k = wga s 604 k) (hr5 : ∀ k : Int, wga s1 605 k = wga s 605 k) (hg : pol s1 g0 G0) (hw : pol s1 w0 W0) (fG : fct G0) (fW : fct W0) (qW : sqf W0) (hf : fst F D ga G0 W0) (hy : yu G0 W0) (hQ : ∀ s' n' c', pw pF1 pR1 0 0 s s' → fi s' n' c' → n ≤ n' → dsm c' n' ≤ dsm c n + 8 → yE s s' F W0 i n n' c c' → Q s') : wloop (fun (K : Int × Int × Int × im_S → Prop) (a : Int × Int × Int × im_S) => W_part1_68 K i (wgf s 28) (wgf s 24) (n : Int) a.1 a.2.1 a.2.2.1 a.2.2.2 Q) (g0, w0, 1, s1) := by
  obtain ⟨f1, f2, f3, f4, f5⟩ := hfi
  have how : ∀ k, k < n → ow (c k) := fun k hk => (f5 k hk).2.1
  have hnn : n ≤ dsm c n := dsm_n (fun k hk => (how k hk).2.2.1)
  have F9 := hf.1.1.2.1
  have lW0 := fW.1.1
  have lG0 := fG.1.1
  have lsum := hf.2.2.1
  refine ⟨fun a => ∃ (G W : List Int) (m : Nat) (c' : Nat → List Int) (j : Nat), a.2.2.1 = j ∧ pw pF1 pR1 (wgf s 24) (wgf s 28) s a.2.2.2 ∧ wgf s 24 ≤ wgf a.2.2.2 24 ∧ wgf s 28 ≤ wgf a.2.2.2 28 ∧ pol a.2.2.2 a.1 G ∧ pol a.2.2.2 a.2.1 W ∧ fct G ∧ fct W ∧ sqf W ∧ 1 ≤ j ∧ j + W.length + G.length ≤ 11 ∧ ((j = 1 ∧ fst F D ga G W) ∨ W.length ≤ 5) ∧ wgf a.2.2.2 36 = ((n + m : Nat) : Int) ∧ (∀ k : Int, 0 ≤ k → k < n → wga a.2.2.2 603 k = wga s 603 k) ∧ (∀ k : Int, 0 ≤ k → k < n → wga a.2.2.2 604 k = wga s 604 k) ∧ (∀ k : Int, 0 ≤ k → k < n → wga a.2.2.2 605 k = wga s 605 k) ∧ (∀ k, k < n → c' k = c k) ∧ (∀ q : Nat, q < m → fie a.2.2.2 (n + q) (c' (n + q))) ∧ dsm c' (n + m) + (W.length - 1) ≤ dsm c n + 8 ∧ wgf a.2.2.2 28 ≤ wgf s 28 + 14 * j ∧ wgf a.2.2.2 24 ≤ wgf s 24 + 55000 * j ∧ yz F W0 a.2.2.2 i n m j c' G W ∧ yu G W, fun a => (wga a.2.2.2 598 a.1 + wga a.2.2.2 598 a.2.1 + 2).toNat, ⟨G0, W0, 0, c, 1, rfl, hs, h24, h28, hg, hw, fG, fW, qW, by omega, by omega, Or.inl ⟨rfl, hf⟩, h36, fun k _ _ => hr3 k, fun k _ _ => hr4 k, fun k _ _ => hr5 k, fun _ _ => rfl, fun q hq => by omega, ?_, by (try dsimp only); omega, by (try dsimp only); omega, yz_0 hf.2.1, hy⟩, ?_⟩
  · rw [Nat.add_zero]; omega
  rintro ⟨g, w, jj, s2⟩ ⟨G, W, m, c', j, i1, i2, i3, i4, i5, i6, i7, i8, i9, i10, i11, i12, i13, i14, i15, i16, i17, i18, i19, i20, i21, i22, i23⟩
  dsimp only at i1 i2 i3 i4 i5 i6 i7 i8 i9 i10 i11 i12 i13 i14 i15 i16 i17 i18 i19 i20 i21 ⊢
  subst i1
  have W1 := i8.1.1
  have G1 := i7.1.1
  have w1 := i6.1
  have w2 := i6.2.1
  have w3 := i6.2.2.1
  have w5 := i6.2.2.2.2.1
  have g5 := i5.2.2.2.2.1
  have da := dsm_a (c := c') (n := n) (m := m) (fun k h1 h2 => by
    have := (i18 (k - n) (by omega)).2.1.2.2.1
    rw [show n + (k - n) = k by omega] at this
    exact this)
  have dc : dsm c' n = dsm c n := dsm_co i17
  unfold W_part1_68
  refine ⟨⟨w1, by omega⟩, fun e => ?_, fun e => ?_⟩
  · intro s3 e3
    have l1 : W.length = 1 := by omega
    have w3 : pw pF1 pR1 (wgf s 24) (wgf s 28) s s3 := by rw [e3]; exact pw_pf i2 (Or.inr (Or.inr (Or.inr (by decide))))
    refine part1_179 (s := s) (s1 := s3) (n := n) (m := m) (c' := c') w3 ?_ (by omega) (by omega) f2 f3 f4 (fun q hq => ?_) (fun q hq => (i18 q hq).2.1) (by rw [e3]; exact wf_same) (fun s' d1 d2 d3 d4 d5 d6 d7 d8 d9 => ?_)
    · rw [e3, wf_ne (by decide)]; exact i13
    · rw [e3, wg_pf]
      exact pol_pf (by decide) (by decide) (i18 q hq).1
    · have d6' : ∀ k : Int, 0 ≤ k → k < n → wga s' 603 k = wga s 603 k := fun k k0 k1 => by
        rw [d6 k k0 k1, e3, wg_pf]; exact i14 k k0 k1
      have d7' : ∀ k : Int, wga s' 604 k = wga s2 604 k := fun k => by rw [d7, e3, wg_pf]
      have d8' : ∀ k : Int, wga s' 605 k = wga s2 605 k := fun k => by rw [d8, e3, wg_pf]
      refine hQ s' (n + m) c' (pw_mono d1 (fun _ h => h) (fun _ h => h) f3 (by omega)) ⟨d2, d3, by omega, d5, fun k hk => ?_⟩ (by omega) (by omega) (yz_E i22 i23 i8.1 l1 i7.1 i17 (fun k k0 k1 => by rw [d7']; exact i15 k k0 k1) (fun k k0 k1 => by rw [d8']; exact i16 k k0 k1) d7' d8')
      by_cases ck : k < n
      · have z := f5 k ck
        rw [i17 k ck]
        refine ⟨?_, z.2.1, ?_, ?_⟩
        · rw [d6' k (by omega) (by omega)]
          exact pw_pol d1 ⟨by decide, by decide, by decide⟩ (Int.le_refl _) d4 (Int.le_refl _) (by omega) (by omega) z.1
        · rw [d7', i15 k (by omega) (by omega)]; exact z.2.2.1
        · rw [d8', i16 k (by omega) (by omega)]; exact z.2.2.2
      · have z := i18 (k - n) (by omega)
        have y := d9 (k - n) (by omega)
        rw [show n + (k - n) = k by omega] at z y
        exact ⟨y, z.2.1, by rw [d7']; exact z.2.2.1, by rw [d8']; exact z.2.2.2⟩
  · have W2 : 2 ≤ W.length := by omega
    have gW := i8.1
    have gG := i7.1
    have ctd := ct_d W.length (by have := gW.2.1; omega) G.length (by have := gG.2.1; omega)
    have G9 := gG.2.1
    refine common2_gcd i6 i5 gW.1 gG.1 gW.2.2.1 gG.2.2.1 gW.2.2.2.2 gG.2.2.2.2 (fct_pab i8) (fct_pab i7) (by omega) (by omega) (by omega) (fun y s3 Y a1 a2 a3 a4 a5 a6 => ?_)
    have a13 := a1.2.2.1
    have a14 := a1.2.2.2
    have p28 : wgf s3 28 ≤ 1200 := by omega
    have gY : gd Y := gcdof_gd a5 gW
    have Y1 := gY.1
    have qYW : qd Y W := a5.2.2.2.2.1
    have qYG : qd Y G := a5.2.2.2.2.2.1
    have lYW := qd_len qYW gY.2.2.1 gY.1 gW.2.2.1 gW.1
    have lYG := qd_len qYG gY.2.2.1 gY.1 gG.2.2.1 gG.1
    refine share_fc (ps_pol a1 p28 i6) a4 i8 gY qYW (by omega) (by omega) (by omega) (fun s4 O b1 b2 b3 b4 b5 b6 b7 => ?_)
    have b13 := b1.2.2.1
    have O1 := b4.1.1
    have b35 := b3.2.2.2.2.1
    refine ⟨⟨b3.1, by omega⟩, ?_⟩
    have ps24 := ps_tr a1 b1
    have pw24 : pw pF1 pR1 (wgf s 24) (wgf s 28) s s4 := pw_tr i2 (ps_pw ps24 i3 i4)
    -- behind the second share
    have fin : ∀ (s5 : im_S) (m' : Nat) (c'' : Nat → List Int), pw pF1 pR1 (wgf s 24) (wgf s 28) s s5 → wgf s5 24 = wgf s4 24 → wgf s5 28 = wgf s4 28 → pol s5 g G → pol s5 y Y → wgf s5 36 = ((n + m' : Nat) : Int) → (∀ k : Int, 0 ≤ k → k < n → wga s5 603 k = wga s 603 k) → (∀ k : Int, 0 ≤ k → k < n → wga s5 604 k = wga s 604 k) → (∀ k : Int, 0 ≤ k → k < n → wga s5 605 k = wga s 605 k) → (∀ k, k < n → c'' k = c k) → (ow O ∨ O.length ≤ 1 → ∀ q : Nat, q < m' → fie s5 (n + q) (c'' (n + q))) → dsm c'' (n + m') + (Y.length - 1) ≤ dsm c n + 8 → yz F W0 s5 i n m' j c'' G Y → W_part1_150 (fun b => (∃ (G W : List Int) (m : Nat) (c' : Nat → List Int) (j : Nat), b.2.2.1 = j ∧ pw pF1 pR1 (wgf s 24) (wgf s 28) s b.2.2.2 ∧ wgf s 24 ≤ wgf b.2.2.2 24 ∧ wgf s 28 ≤ wgf b.2.2.2 28 ∧ pol b.2.2.2 b.1 G ∧ pol b.2.2.2 b.2.1 W ∧ fct G ∧ fct W ∧ sqf W ∧ 1 ≤ j ∧ j + W.length + G.length ≤ 11 ∧ ((j = 1 ∧ fst F D ga G W) ∨ W.length ≤ 5) ∧ wgf b.2.2.2 36 = ((n + m : Nat) : Int) ∧ (∀ k : Int, 0 ≤ k → k < n → wga b.2.2.2 603 k = wga s 603 k) ∧ (∀ k : Int, 0 ≤ k → k < n → wga b.2.2.2 604 k = wga s 604 k) ∧ (∀ k : Int, 0 ≤ k → k < n → wga b.2.2.2 605 k = wga s 605 k) ∧ (∀ k, k < n → c' k = c k) ∧ (∀ q : Nat, q < m → fie b.2.2.2 (n + q) (c' (n + q))) ∧ dsm c' (n + m) + (W.length - 1) ≤ dsm c n + 8 ∧ wgf b.2.2.2 28 ≤ wgf s 28 + 14 * j ∧ wgf b.2.2.2 24 ≤ wgf s 24 + 55000 * j ∧ yz F W0 b.2.2.2 i n m j c' G W ∧ yu G W) ∧ (wga b.2.2.2 598 b.1 + wga b.2.2.2 598 b.2.1 + 2).toNat < (wga s2 598 g + wga s2 598 w + 2).toNat) i (wgf s 28) (wgf s 24) (n : Int) g (j : Int) y s5 Q := by
      intro s5 m' c'' v1 v2 v3 v4 v5 v6 v7 v8 v9 v10 v11 v12 v13
      unfold W_part1_150
      refine share_fc v4 v5 i7 gY qYG (by omega) (by omega) (by omega) (fun s6 Gn d1 d2 d3 d4 d5 d6 d7 => ⟨⟨by omega, by omega⟩, ?_⟩)
      have d13 := d1.2.2.1
      have ho : ow O ∨ O.length ≤ 1 := by
        by_cases lo : O.length ≤ 1
        · exact Or.inr lo
        · refine Or.inl ⟨b4, sqf_fct i9 b6, by omega, fun h6 => ?_⟩
          rcases i12 with ⟨_, x⟩ | x
          · exact own_small x.1 gG gW b4.1 d4.1 x.2.1 x.2.2.1 x.2.2.2.1 x.2.2.2.2 a5 b6 b5 d6 d5 h6
          · omega
      have Y5 : Y.length ≤ 5 := by
        rcases i12 with ⟨_, x⟩ | x
        · have := x.2.2.1
          have := x.1.1.2.1
          omega
        · omega
      have y6 := ps_pol d1 (by omega) v5
      have y65 := y6.2.2.2.2.1
      have d35 := d3.2.2.2.2.1
      refine ⟨⟨Gn, Y, m', c'', j + 1, by (try dsimp only); omega, pw_tr v1 (ps_pw d1 (by omega) (by omega)), by (try dsimp only); omega, by (try dsimp only); omega, d3, y6, d4, fct_dv i8 gY (qd_dvz gY.2.2.2.2 qYW), sqf_dv qYW i9, by omega, by omega, Or.inr Y5, ?_, fun k k0 k1 => ?_, fun k k0 k1 => ?_, fun k k0 k1 => ?_, v10, fun q hq => ?_, v12, by (try dsimp only); omega, by (try dsimp only); omega, yz_G v13 d6 (fun k => ps_r d1 (by decide) (by decide) (by decide)) (fun k => ps_r d1 (by decide) (by decide) (by decide)), yu_s i23 i9 a5 b6 d6⟩, by (try dsimp only); omega⟩
      · (try dsimp only); rw [ps_f d1 (by decide) (by decide) (by decide)]; exact v6
      · (try dsimp only); rw [ps_r d1 (by decide) (by decide) (by decide)]; exact v7 k k0 k1
      · (try dsimp only); rw [ps_r d1 (by decide) (by decide) (by decide)]; exact v8 k k0 k1
      · (try dsimp only); rw [ps_r d1 (by decide) (by decide) (by decide)]; exact v9 k k0 k1
      · have z := v11 ho q hq
        unfold fie
        try dsimp only
        rw [ps_r d1 (by decide) (by decide) (by decide), ps_r d1 (by decide) (by decide) (by decide), ps_r d1 (by decide) (by decide) (by decide)]
        exact ⟨ps_pol d1 (by omega) z.1, z.2⟩
    have e36 : wgf s4 36 = ((n + m : Nat) : Int) := by rw [ps_f ps24 (by decide) (by decide) (by decide)]; exact i13
    have g4 : pol s4 g G := ps_pol ps24 (by omega) i5
    have y4 : pol s4 y Y := ps_pol b1 (by omega) a4
    have old : ∀ q : Nat, q < m → fie s4 (n + q) (c' (n + q)) := fun q hq => by
      have z := i18 q hq
      unfold fie
      rw [ps_r ps24 (by decide) (by decide) (by decide), ps_r ps24 (by decide) (by decide) (by decide), ps_r ps24 (by decide) (by decide) (by decide)]
      exact ⟨ps_pol ps24 (by omega) z.1, z.2⟩
    refine ⟨fun e2 => ?_, fun e2 => ?_⟩
    · refine fin s4 m c' pw24 rfl rfl g4 y4 e36 (fun k k0 k1 => ?_) (fun k k0 k1 => ?_) (fun k k0 k1 => ?_) i17 (fun _ => old) (by omega) (yz_same i22 b6 (fun x => gd_one b4.1 (by omega) x) (fun k => ps_r ps24 (by decide) (by decide) (by decide)) (fun k => ps_r ps24 (by decide) (by decide) (by decide)))
      · rw [ps_r ps24 (by decide) (by decide) (by decide)]; exact i14 k k0 k1
      · rw [ps_r ps24 (by decide) (by decide) (by decide)]; exact i15 k k0 k1
      · rw [ps_r ps24 (by decide) (by decide) (by decide)]; exact i16 k k0 k1
    · have lo : 2 ≤ O.length := by omega
      rw [e36]
      refine ⟨⟨by omega, by omega⟩, fun s5 e5 => ?_⟩
      have e365 : wgf s5 36 = ((n + m : Nat) : Int) := by rw [e5, wf_pa]; exact e36
      rw [e365]
      refine ⟨⟨by omega, by omega⟩, fun s6 e6 => ?_⟩
      have e366 : wgf s6 36 = ((n + m : Nat) : Int) := by rw [e6, wf_pa]; exact e365
      rw [e366]
      refine ⟨⟨by omega, by omega⟩, fun s7 e7 => ?_⟩
      have e367 : wgf s7 36 = ((n + m : Nat) : Int) := by rw [e7, wf_pa]; exact e366
      rw [e367]
      refine ⟨⟨by omega, by omega⟩, fun s8 e8 => ?_⟩
      have pl : ∀ (f : Int) (P : List Int), pol s4 f P → pol s8 f P := fun f P h => by
        rw [e8, e7, e6, e5]
        exact pol_pf (by decide) (by decide) (pol_pa (by decide) (by decide) (by decide) (pol_pa (by decide) (by decide) (by decide) (pol_pa (by decide) (by decide) (by decide) h)))
      have r3 : ∀ k : Int, wga s8 603 k = wga (wpa s4 603 ((n + m : Nat) : Int) (wgf s3 28 + 1)) 603 k := fun k => by
        rw [e8, wg_pf, e7, wg_row (by decide), e6, wg_row (by decide), e5]
      have r4 : ∀ k : Int, wga s8 604 k = wga (wpa s5 604 ((n + m : Nat) : Int) i) 604 k := fun k => by
        rw [e8, wg_pf, e7, wg_row (by decide), e6]
      have r5 : ∀ k : Int, wga s8 605 k = wga (wpa s6 605 ((n + m : Nat) : Int) (j : Int)) 605 k := fun k => by
        rw [e8, wg_pf, e7]
      have o3 : ∀ k : Int, 0 ≤ k → k < ((n + m : Nat) : Int) → wga s8 603 k = wga s4 603 k := fun k k0 k1 => by
        rw [r3, wg_ne (by omega) k0 (by omega)]
      have o4 : ∀ k : Int, 0 ≤ k → k < ((n + m : Nat) : Int) → wga s8 604 k = wga s4 604 k := fun k k0 k1 => by
        rw [r4, wg_ne (by omega) k0 (by omega), e5, wg_row (by decide)]
      have o5 : ∀ k : Int, 0 ≤ k → k < ((n + m : Nat) : Int) → wga s8 605 k = wga s4 605 k := fun k k0 k1 => by
        rw [r5, wg_ne (by omega) k0 (by omega), e6, wg_row (by decide), e5, wg_row (by decide)]
      obtain ⟨c'', hn'', ho''⟩ : ∃ c'' : Nat → List Int, c'' (n + m) = O ∧ ∀ k, k ≠ n + m → c'' k = c' k := ⟨fun k => if k = n + m then O else c' k, if_pos rfl, fun k hk => if_neg hk⟩
      refine fin s8 (m + 1) c'' ?_ ?_ ?_ (pl _ _ g4) (pl _ _ y4) ?_ (fun k k0 k1 => ?_) (fun k k0 k1 => ?_) (fun k k0 k1 => ?_) (fun k hk => ?_) (fun ho q hq => ?_) ?_ (yz_own i22 b6 hn'' (fun k hk => ho'' k hk) (fun k k0 k1 => by rw [o4 k k0 k1]; exact ps_r ps24 (by decide) (by decide) (by decide)) (fun k k0 k1 => by rw [o5 k k0 k1]; exact ps_r ps24 (by decide) (by decide) (by decide)) (by rw [r4, wg_same]) (by rw [r5, wg_same]))
      · rw [e8, e7, e6, e5]
        exact pw_pf (pw_pa (pw_pa (pw_pa pw24 (by decide)) (by decide)) (by decide)) (Or.inr (Or.inr (Or.inr (by decide))))
      · rw [e8, wf_ne (by decide), e7, wf_pa, e6, wf_pa, e5, wf_pa]
      · rw [e8, wf_ne (by decide), e7, wf_pa, e6, wf_pa, e5, wf_pa]
      · rw [e8, wf_same]; omega
      · rw [o3 k k0 (by omega), ps_r ps24 (by decide) (by decide) (by decide)]; exact i14 k k0 k1
      · rw [o4 k k0 (by omega), ps_r ps24 (by decide) (by decide) (by decide)]; exact i15 k k0 k1
      · rw [o5 k k0 (by omega), ps_r ps24 (by decide) (by decide) (by decide)]; exact i16 k k0 k1
      · rw [ho'' k (by omega)]; exact i17 k hk
      · by_cases eq : q = m
        · subst eq
          rw [hn'']
          refine ⟨?_, ?_, ?_, ?_⟩
          · rw [r3, wg_same]
            exact pl _ _ b3
          · rcases ho with x | x
            · exact x
            · omega
          · rw [r4, wg_same]; exact hi
          · rw [r5, wg_same]; exact ⟨by omega, by omega⟩
        · have z := old q (by omega)
          rw [ho'' (n + q) (by omega)]
          refine ⟨?_, z.2.1, ?_, ?_⟩
          · rw [o3 _ (by omega) (by omega)]; exact pl _ _ z.1
          · rw [o4 _ (by omega) (by omega)]; exact z.2.2.1
          · rw [o5 _ (by omega) (by omega)]; exact z.2.2.2
      · have d1 : dsm c'' (n + (m + 1)) = dsm c' (n + m) + (O.length - 1) := by
          show dsm c'' (n + m) + ((c'' (n + m)).length - 1) = _
          rw [hn'', dsm_co (c := c') (d := c'') (fun k hk => ho'' k (by omega))]
        rw [d1]
        omega
/-- what part1 leaves of atom i, whose factors are v -/
def pE (s s' : im_S) (v : Nat → Int) (i : Int) (n n' : Nat) (c c' : Nat → List Int) : Prop := (∀ k, k < n → c' k = c k) ∧ (∀ k : Int, 0 ≤ k → k < n → wga s' 604 k = wga s 604 k) ∧ (∀ k : Int, 0 ≤ k → k < n → wga s' 605 k = wga s 605 k) ∧ ∃ (m : Nat) (tm : Nat → Nat), n' = n + m ∧ (∀ q : Nat, q < m → wga s' 604 ((n + q : Nat) : Int) = i ∧ wga s' 605 ((n + q : Nat) : Int) = (tm q : Int)) ∧ (nzp (pmk 9 v) → ∃ a b : Int, a ≠ 0 ∧ b ≠ 0 ∧ ∀ x : Rat, (a : Rat) * pev (pmk 9 v) x = (b : Rat) * PRd (fun q => c' (n + q)) tm x m) ∧ ((∀ k, pgt (pmk 9 v) k = 0) → m = 0) ∧ ∀ q q', q < q' → q' < m → cop (c' (n + q)) (c' (n + q'))
theorem cr_c1 {P R : List Int} (h : cr 1 P R) (h1 : 1 ≤ R.length) : ∃ a : Int, a ≠ 0 ∧ (∀ x : Rat, pev P x = (a : Rat) * pev R x) ∧ nzp P := by
  obtain ⟨_, h2, _, g, g0, _, e⟩ := h
  refine ⟨g, g0, fun x => pev_csc e x, R.length - 1, ?_⟩
  rw [e]
  exact Int.mul_ne_zero g0 (h2 _ (by omega)).1
theorem cr_c0 {P R : List Int} (h : cr 1 P R) (h1 : R.length ≤ 1) (k : Nat) : pgt P (k + 1) = 0 := by
  obtain ⟨_, _, _, g, _, _, e⟩ := h
  rw [e, pgt_hi R (k + 1) (by omega), Int.mul_zero]
theorem yu_0 {F G W D : List Int} {ga : Int} (e : ∀ x : Rat, pev F x = pev G x * pev W x) (g0 : ga ≠ 0) (hD : ∀ x : Rat, pev (pdl F) x = ga * pev D x) (hg : qd G D) : yu G W := by
  obtain ⟨c, K, c0, h⟩ := hg
  refine ⟨c, psm ga K, c0, fun x => ?_⟩
  have d : pev (pdl (pmul G W)) x = pev (pdl F) x := pdl_co (fun k => pev_inj (fun x => by rw [pmul_ev, e x]) k) x
  have a := h x
  rw [d, hD x, psm_ev]
  grind
theorem PRd_cop {p : Nat → List Int} {W : List Int} (hW : sqf W) : ∀ (m : Nat) (V : List Int), (∀ x : Rat, pev W x = PRd p (fun _ => 1) x m * pev V x) → ∀ q q', q < q' → q' < m → cop (p q) (p q')
  | 0, _, _, q, q', _, h => absurd h (by omega)
  | m + 1, V, e, q, q', h1, h2 => by
    obtain ⟨L, hL⟩ := PRd_list p (fun _ => 1) m
    have e' : ∀ x : Rat, pev W x = PRd p (fun _ => 1) x m * pev (pmul (p m) V) x := fun x => by
      rw [e x, pmul_ev]
      show PRd p (fun _ => 1) x m * pev (p m) x ^ 1 * pev V x = _
      rw [Rat.pow_succ, Rat.pow_zero]; grind
    by_cases c : q' = m
    · subst c
      obtain ⟨K, hK⟩ := PRd_dv (p := p) (m := fun _ => 1) (e := q) (Nat.le_refl 1) h1
      have c1 : cop (p q) (pmul (p q') (pmul V K)) := cop_sq hW (fun x => by
        rw [e' x, hK x, pmul_ev, pmul_ev, pmul_ev]; grind)
      exact cop_dv c1 ⟨pmul V K, fun x => pmul_ev _ _ x⟩
    · exact PRd_cop hW m (pmul (p m) V) e' q q' h1 (by omega)
theorem pE_1 {s s' : im_S} {F W : List Int} {v : Nat → Int} {i : Int} {n n' : Nat} {c c' : Nat → List Int} (h : yE s s' F W i n n' c c') (sW : sqf W) (hF : ∃ a : Int, a ≠ 0 ∧ (∀ x : Rat, pev (pmk 9 v) x = (a : Rat) * pev F x) ∧ nzp (pmk 9 v)) : pE s s' v i n n' c c' := by
  obtain ⟨h1, h2, h3, m, tm, h4, h5, h6, h7⟩ := h
  obtain ⟨a, a0, ea, nv⟩ := hF
  refine ⟨h1, h2, h3, m, tm, h4, h5, fun _ => ⟨1, a, by decide, a0, fun x => by rw [ea x, h6 x, rat_i1, Rat.one_mul]⟩, fun z => ?_, ?_⟩
  · obtain ⟨k, hk⟩ := nv
    exact absurd (z k) hk
  · exact PRd_cop sW m [1] (fun x => by rw [h7 x, pev_c1, Rat.mul_one])
theorem pE_0 {s s' : im_S} {v : Nat → Int} {i : Int} {n : Nat} {c : Nat → List Int} (r4 : ∀ k : Int, wga s' 604 k = wga s 604 k) (r5 : ∀ k : Int, wga s' 605 k = wga s 605 k) (hF : ∀ k, pgt (pmk 9 v) (k + 1) = 0) : pE s s' v i n n c c := by
  refine ⟨fun _ _ => rfl, fun k _ _ => r4 k, fun k _ _ => r5 k, 0, fun _ => 0, rfl, fun q hq => by omega, fun nz => ⟨1, pgt (pmk 9 v) 0, by decide, fun z => ?_, fun x => ?_⟩, fun _ => rfl, fun q q' _ h => by omega⟩
  · obtain ⟨k, hk⟩ := nz
    cases k with
    | zero => exact hk z
    | succ k => exact hk (hF k)
  · rw [const_ev hF x, rat_i1, Rat.one_mul]
    show _ = _ * (1 : Rat)
    rw [Rat.mul_one]
theorem part1_okv {s : im_S} {i : Int} {v : Nat → Int} {n : Nat} {c : Nat → List Int} {Q : im_S → Prop} (hi : 0 ≤ i ∧ i < 10) (hv : ∀ k : Nat, k < 9 → wga s 584 (9 * i + k) = v k) (hb : ∀ k : Nat, k < 9 → -1000000000 ≤ v k ∧ v k ≤ 1000000000) (hfi : fi s n c) (hn : dsm c n ≤ 72) (hQ : ∀ s' n' c', pw pF1 pR1 0 0 s s' → fi s' n' c' → n ≤ n' → dsm c' n' ≤ dsm c n + 8 → pE s s' v i n n' c c' → Q s') : W_part1 i s Q := by
  unfold W_part1
  obtain ⟨f1, f2, f3, f4, f5⟩ := hfi
  have hnn : n ≤ dsm c n := dsm_n (fun k hk => (f5 k hk).2.1.2.2.1)
  refine polynomialOf_ok hi hv hb (by omega) (by omega) f3 (by omega) (fun s1 F a1 a2 a3 a4 a5 => ⟨⟨by omega, by omega⟩, fun c1 => ?_, fun c1 => ?_⟩)
  · have d3 := a3.2.2.2.2.1
    have F2 : 2 ≤ F.length := by omega
    have oF := org_of hb a4 (by omega)
    have F9 := oF.1.2.1
    have fF : fct F := ⟨oF.1, F, oF, dvz_rfl F⟩
    have a13 := a1.2.2.1
    have m9 : (F.length : Int) * ((2 : Nat) + 2 : Int) ≤ 9 * ((2 : Nat) + 2 : Int) := Int.mul_le_mul_of_nonneg_right (by omega) (by decide)
    have lb : plb F 2 := fun k => lim_b9 (by have := oF.2 k; omega) (by have := oF.2 k; omega)
    refine derivative_ok (M := 2) a3 lb (by omega) (by omega) (by omega) (by omega) (fun s2 D b1 b2 b3 b4 b5 => ?_)
    have b13 := b1.2.2.1
    obtain ⟨lD, nD, pD, bD, ga, ga0, eD⟩ := der_of oF F2 b4
    have ctd := ct_d F.length (by omega) D.length (by omega)
    have p2 := ps_pol b1 (by omega) a3
    refine common2_gcd p2 b3 oF.1.1 (by omega) oF.1.2.2.1 nD oF.1.2.2.2.2 pD (fct_pab fF) bD (by omega) (by omega) (by omega) (fun g s3 G d1 d2 d3' d4 d5 d6 => ?_)
    have d13 := d1.2.2.1
    have d14 := d1.2.2.2
    have gG := gcdof_gd d5 oF.1
    have qG : qd G F := d5.2.2.2.2.1
    refine share_fc (ps_pol d1 (by omega) p2) d4 fF gG qG (by omega) (by omega) (by omega) (fun s4 W e1 e2 e3 e4 e5 e6 e7 => ?_)
    have e13 := e1.2.2.1
    have ps4 := ps_tr a1 (ps_tr b1 (ps_tr d1 e1))
    have sW : sqf W := sqf_quot oF.1.1 oF.1.2.2.1 e4.1.2.2.1 e4.1.1 gG.2.2.1 gG.1 e6 ga0 eD d5.2.2.2.2.2.1 d5.2.2.2.2.2.2
    rw [f1]
    refine part1_68v (s := s) (F := F) (D := D) (ga := ga) hi ⟨f1, f2, f3, f4, f5⟩ hn (ps_pw ps4 (Int.le_refl _) (Int.le_refl _)) (by omega) (by omega) (by omega) (by omega) ?_ (fun k => ps_r ps4 (by decide) (by decide) (by decide)) (fun k => ps_r ps4 (by decide) (by decide) (by decide)) (fun k => ps_r ps4 (by decide) (by decide) (by decide)) (ps_pol e1 (by omega) d4) e3 (fct_dv fF gG (qd_dvz gG.2.2.2.2 qG)) e4 sW ⟨oF, e6, e5, eD, d5.2.2.2.2.2.1⟩ (yu_0 e6 ga0 eD d5.2.2.2.2.2.1) (fun s' n' c' z1 z2 z3 z4 z5 => hQ s' n' c' z1 z2 z3 z4 (pE_1 z5 sW (cr_c1 a4 (by omega))))
    rw [ps_f ps4 (by decide) (by decide) (by decide)]; exact f1
  · refine giveBack_ok (fun s2 b1 b2 b3 b4 b5 => ?_)
    have w1 : pw pF1 pR1 (wgf s 24) (wgf s 28) s s1 := ps_pw a1 (Int.le_refl _) (Int.le_refl _)
    have w2 : pw pF1 pR1 (wgf s 24) (wgf s 28) s s2 := by
      refine ⟨fun c f h => ?_, fun c i q1 q2 q3 q4 => ?_⟩
      · rw [b1 c f (fun z => h ⟨z.1, by rcases z.2 with e | e | e; exact Or.inl e; exact Or.inr (Or.inr (Or.inl e)); exact Or.inr (Or.inr (Or.inr (by rw [e]; decide)))⟩)]
        exact w1.1 c f h
      · rw [b2]; exact w1.2 c i q1 q2 q3 q4
    have r : ∀ (r : Nat) (i : Int), r ≠ 597 → r ≠ 598 → r ≠ 599 → wga s2 r i = wga s r i := fun r i h1 h2 h3 => by
      show s2.2 r i.toNat = _
      rw [b2]
      exact ps_r a1 h1 h2 h3
    refine hQ s2 n c (pw_mono w2 (fun _ h => h) (fun _ h => h) f3 (by omega)) ⟨?_, by omega, by omega, by omega, fun k hk => ?_⟩ (Nat.le_refl _) (by omega) (pE_0 (r 604 · (by decide) (by decide) (by decide)) (r 605 · (by decide) (by decide) (by decide)) (cr_c0 a4 (by have := a3.2.2.2.2.1; omega)))
    · have : wgf s2 36 = wgf s1 36 := b1 582 36 (by decide)
      rw [this, ps_f a1 (by decide) (by decide) (by decide)]; exact f1
    · have z := f5 k hk
      unfold fie
      rw [r 603 _ (by decide) (by decide) (by decide), r 604 _ (by decide) (by decide) (by decide), r 605 _ (by decide) (by decide) (by decide)]
      exact ⟨pw_pol w2 ⟨by decide, by decide, by decide⟩ (Int.le_refl _) (by omega) (Int.le_refl _) (by omega) (by omega) z.1, z.2⟩
