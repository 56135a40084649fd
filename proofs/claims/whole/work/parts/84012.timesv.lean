/-! findTimes BY VALUE -/
def sNt (f : Nat → Nat) : Nat → Nat
  | 0 => 0
  | k + 1 => sNt f k + f k
def tvv (X : Nat → Nat → Nat) (ao tm : Nat → Nat) (e i l : Nat) : Nat := sNt (fun k => X k e * (if ao k = i then tm k else 0)) l
theorem tvv_0 {X : Nat → Nat → Nat} {ao tm : Nat → Nat} {e i : Nat} : tvv X ao tm e i 0 = 0 := rfl
theorem tvv_s {X : Nat → Nat → Nat} {ao tm : Nat → Nat} {e i l : Nat} : tvv X ao tm e i (l + 1) = tvv X ao tm e i l + X l e * (if ao l = i then tm l else 0) := rfl
theorem tvv_z {X : Nat → Nat → Nat} {ao tm : Nat → Nat} {e i : Nat} : ∀ {l : Nat}, (∀ j, j < l → ao j = i → X j e = 0) → tvv X ao tm e i l = 0
  | 0, _ => rfl
  | l + 1, h => by
    rw [tvv_s, tvv_z (fun j hj => h j (by omega))]
    by_cases c : ao l = i
    · rw [h l (by omega) c, Nat.zero_mul]
    · rw [if_neg c, Nat.mul_zero]
/-- the table of times, up to base k and factor l -/
def tIn (X : Nat → Nat → Nat) (ao tm : Nat → Nat) (nb n : Nat) (s : im_S) (k l : Nat) : Prop := ∀ e i : Nat, e < nb → i < 10 → wga s 606 ((10 * e + i : Nat) : Int) = ((if e < k then tvv X ao tm e i n else if e = k then tvv X ao tm e i l else 0 : Nat) : Int)
theorem tIn_up {X : Nat → Nat → Nat} {ao tm : Nat → Nat} {nb n k : Nat} {s : im_S} (h : tIn X ao tm nb n s k n) : tIn X ao tm nb n s (k + 1) 0 := fun e i he hi => by
  rw [h e i he hi, tvv_0, ite_self]
  by_cases c : e < k
  · rw [if_pos c, if_pos (by omega)]
  · rw [if_neg c]
    by_cases d : e = k
    · rw [if_pos d, if_pos (by omega)]
    · rw [if_neg d, if_neg (by omega)]
theorem tIn_0 {X : Nat → Nat → Nat} {ao tm : Nat → Nat} {nb n k l : Nat} {s : im_S} (h : tIn X ao tm nb n s k l) (hX : X l k = 0) : tIn X ao tm nb n s k (l + 1) := fun e i he hi => by
  rw [h e i he hi]
  by_cases d : e = k
  · rw [tvv_s, d, hX, Nat.zero_mul, Nat.add_zero]
  · rw [if_neg d, if_neg d]
theorem tIn_1 {X : Nat → Nat → Nat} {ao tm : Nat → Nat} {nb n k l : Nat} {s s' : im_S} (h : tIn X ao tm nb n s k l) (hk : k < nb) (hX : X l k = 1) (e5 : s' = wpa s 606 (10 * (k : Int) + (ao l : Int)) (tm l : Int)) (ha : ao l < 10) (z : tvv X ao tm k (ao l) l = 0) : tIn X ao tm nb n s' k (l + 1) := fun e i he hi => by
  rw [e5]
  by_cases c : e = k ∧ i = ao l
  · obtain ⟨c1, c2⟩ := c
    subst c1
    subst c2
    rw [show ((10 * e + ao l : Nat) : Int) = 10 * (e : Int) + (ao l : Int) by omega, wg_same, if_neg (by omega), if_pos rfl, tvv_s, z, hX, if_pos rfl]
    omega
  · rw [wg_ne (by omega) (by omega) (by omega), h e i he hi]
    by_cases d : e = k
    · subst d
      rw [if_neg (by omega), if_pos rfl, if_neg (by omega), if_pos rfl, tvv_s, if_neg (fun q => c ⟨rfl, q.symm⟩), Nat.mul_zero, Nat.add_zero]
    · rw [if_neg d, if_neg d]
/-- which base divides which factor; each factor the product of its bases -/
def XI (c : Nat → List Int) (K N : Nat) (b : Nat → List Int) (X : Nat → Nat → Nat) : Prop := (∀ k, k < K → (∀ i, i < N → (X k i = 1 ∧ dvz (b i) (c k)) ∨ (X k i = 0 ∧ cop (b i) (c k))) ∧ ∀ x : Rat, pev (c k) x = PRd b (X k) x N) ∧ ∀ i, i < N → ∃ k, k < K ∧ X k i = 1
theorem XI_s {c b b' : Nat → List Int} {K nb N' : Nat} {X : Nat → Nat → Nat} (h : XI c K nb b X) (hj : jo b nb (c K) b' N') (hp : pcp b' N') : ∃ X', XI c (K + 1) N' b' X' := by
  obtain ⟨og, Y, N, n1, n2, h1, h2, h3, h4, h5⟩ := hj
  refine ⟨fun k i => if k = K then Y i else if i < N then X k (og i) else 0, fun k hk => ?_, fun i hi => ?_⟩
  · by_cases e : k = K
    · subst e
      refine ⟨fun i hi => ?_, fun x => ?_⟩
      · try dsimp only
        rw [if_pos rfl]; exact h3 i hi
      · rw [h5 x]
        exact (PRd_co (fun e _ => ⟨rfl, if_pos rfl⟩)).symm
    · obtain ⟨o1, o2⟩ := h.1 k (by omega)
      have pr : ∀ x : Rat, pev (c k) x = PRd b' (fun i => X k (og i)) x N := fun x => by rw [h2, o2 x]
      refine ⟨fun i hi => ?_, fun x => ?_⟩
      · try dsimp only
        rw [if_neg e]
        by_cases q : i < N
        · rw [if_pos q]
          obtain ⟨g1, g2⟩ := h1 i q
          rcases o1 (og i) g1 with w | w
          · exact Or.inl ⟨w.1, dvz_trans g2 w.2⟩
          · exact Or.inr ⟨w.1, cop_qd2 w.2 (dvz_qd g2)⟩
        · rw [if_neg q]
          exact Or.inr ⟨rfl, cop_PR N (c k) (fun j hj _ => pcp_s hp hi (by omega) (by omega)) pr⟩
      · rw [pr x]
        by_cases q : N' = N
        · rw [q]
          exact (PRd_co (fun j hj => ⟨rfl, by (try dsimp only); rw [if_neg e, if_pos hj]⟩)).symm
        · have : N' = N + 1 := by omega
          rw [this, PRd_new (p := b') (m := fun i => X k (og i)) (p' := b') (m' := fun i => if k = K then Y i else if i < N then X k (og i) else 0) (n := N) (k := 0) (by (try dsimp only); rw [if_neg e, if_neg (by omega)]) (fun j hj => ⟨rfl, by (try dsimp only); rw [if_neg e, if_pos hj]⟩), Rat.pow_zero, Rat.mul_one]
  · by_cases q : i < N
    · obtain ⟨k, k1, k2⟩ := h.2 (og i) (h1 i q).1
      exact ⟨k, by omega, by (try dsimp only); rw [if_neg (by omega), if_pos q]; exact k2⟩
    · exact ⟨K, by omega, by (try dsimp only); rw [if_pos rfl]; exact h4 i (by omega) hi⟩
def rw45 (s : im_S) (n : Nat) (ao tm : Nat → Nat) : Prop := ∀ k : Nat, k < n → wga s 604 (k : Int) = (ao k : Int) ∧ wga s 605 (k : Int) = (tm k : Int)
theorem cop_len {P : List Int} (h : cop P P) (g : gd P) (h2 : 2 ≤ P.length) : False := by
  obtain ⟨c, u, v, c0, e⟩ := h
  have q : qd P [c] := ⟨1, padd u v, by decide, fun x => by
    rw [rat_i1, ev_c, e x, padd_ev]; grind⟩
  have := qd_len q g.2.2.1 g.1 (fun n hn => by
    have : n = 0 := by simpa using hn.symm
    subst this
    exact c0) (Nat.le_refl 1)
  simp at this
  omega
theorem gcd_full {P F H : List Int} (h : gcdof P F H) (gP : gd P) (hd : dvz P F) : H.length = P.length := by
  obtain ⟨H1, lH, _, _, q1, q2, c, u, v, c0, e⟩ := h
  obtain ⟨K, hK⟩ := hd
  have a := qd_len q1 lH H1 gP.2.2.1 gP.1
  have q3 : qd P H := ⟨c, padd u (pmul v K), c0, fun x => by rw [e x, padd_ev, pmul_ev, hK x]; grind⟩
  have b := qd_len q3 gP.2.2.1 gP.1 lH H1
  omega
theorem gcd_one {P F H : List Int} (h : gcdof P F H) (hc : cop P F) : H.length = 1 := by
  obtain ⟨H1, lH, _, _, q1, q2, _⟩ := h
  obtain ⟨c, u, v, c0, e⟩ := cop_qd2 (cop_qd hc q2) q1
  have q : qd H [c] := ⟨1, padd u v, by decide, fun x => by
    rw [rat_i1, ev_c, e x, padd_ev]; grind⟩
  have := qd_len q lH H1 (fun n hn => by
    have : n = 0 := by simpa using hn.symm
    subst this
    exact c0) (Nat.le_refl 1)
  simp at this
  omega
theorem findTimes_okv {s : im_S} {n nb : Nat} {c b : Nat → List Int} {X : Nat → Nat → Nat} {ao tm : Nat → Nat} {Q : im_S → Prop} (h0 : 0 ≤ wgf s 24 ∧ wgf s 24 ≤ 9000) (h0' : 0 ≤ wgf s 28 ∧ wgf s 28 ≤ 240) (hfx : fx s n c) (hbi : bi s nb b) (hd : dsm b nb ≤ 80) (hX : XI c n nb b X) (hao : rw45 s n ao tm) (hcp : ∀ k k', k < k' → k' < n → ao k = ao k' → cop (c k) (c k')) (hQ : ∀ s', pw pF3 pR3 (wgf s 24) (wgf s 28) s s' → wgf s' 24 = wgf s 24 → wgf s' 28 = wgf s 28 → (∀ i : Nat, i < 2000 → 0 ≤ wga s' 606 i ∧ wga s' 606 i ≤ 8) → tIn X ao tm nb n s' nb 0 → Q s') : W_findTimes s Q := by
  unfold W_findTimes
  have nbd : nb ≤ dsm b nb := dsm_n (fun k hk => (hbi.2.1 k hk).2.2.2.1)
  have r6 : ∀ r, r ∈ pR3 → r = 606 := fun r h => List.mem_singleton.1 h
  have hr1 : ∀ r, r ∈ pR3 → r ≠ 597 ∧ r ≠ 598 ∧ r ≠ 599 ∧ r ≠ 603 ∧ r ≠ 604 ∧ r ≠ 605 := fun r h => by rw [r6 r h]; decide
  have hr2 : ∀ r, r ∈ pR3 → r ≠ 597 ∧ r ≠ 598 ∧ r ≠ 599 ∧ r ≠ 602 := fun r h => by rw [r6 r h]; decide
  refine ⟨fun a => ∃ i : Nat, a.1 = i ∧ i ≤ 2000 ∧ pw pF3 pR3 (wgf s 24) (wgf s 28) s a.2 ∧ wgf a.2 24 = wgf s 24 ∧ wgf a.2 28 = wgf s 28 ∧ (∀ j : Nat, j < i → wga a.2 606 j = 0), fun a => (2000 - a.1).toNat, ⟨0, rfl, by omega, pw_rfl, rfl, rfl, fun j hj => by omega⟩, ?_⟩
  rintro ⟨i0, s1⟩ ⟨i, i1, i2, i3, i4, i5, i6⟩
  dsimp only at i1 i2 i3 i4 i5 i6 ⊢
  subst i1
  unfold W_findTimes_2
  refine ⟨fun e => ?_, fun e => ⟨⟨by omega, by omega⟩, fun s2 e2 => ⟨⟨by omega, by omega⟩, ⟨i + 1, by (try dsimp only); omega, by omega, by rw [e2]; exact pw_pa i3 (by decide), by rw [e2]; exact i4, by rw [e2]; exact i5, fun j hj => ?_⟩, by (try dsimp only); omega⟩⟩⟩
  · have ei : i = 2000 := by omega
    subst ei
    refine ⟨fun a => ∃ k : Nat, a.1 = k ∧ k ≤ nb ∧ pw pF3 pR3 (wgf s 24) (wgf s 28) s a.2 ∧ wgf a.2 24 = wgf s 24 ∧ wgf a.2 28 = wgf s 28 ∧ (∀ j : Nat, j < 2000 → 0 ≤ wga a.2 606 j ∧ wga a.2 606 j ≤ 8) ∧ tIn X ao tm nb n a.2 k 0, fun a => ((nb : Int) - a.1).toNat, ⟨0, rfl, by omega, i3, i4, i5, fun j hj => by (try dsimp only); rw [i6 j hj]; decide, fun e i he hi => by (try dsimp only); rw [i6 (10 * e + i) (by omega), if_neg (by omega), tvv_0, ite_self]; rfl⟩, ?_⟩
    rintro ⟨k0, s2⟩ ⟨k, j1, j2, j3, j4, j5, j6, j7⟩
    dsimp only at j1 j2 j3 j4 j5 j6 j7 ⊢
    subst j1
    have b2 := pw_bi j3 (by decide) hr2 (by omega) (by omega) (by omega) hbi
    unfold W_findTimes_26
    refine ⟨fun e => hQ s2 j3 j4 j5 j6 (by have := b2.1; rw [show nb = k by omega]; rw [show nb = k by omega] at j7; exact j7), fun e => ?_⟩
    have hk : k < nb := by have := b2.1; omega
    refine ⟨fun a => ∃ l : Nat, a.1 = l ∧ l ≤ n ∧ pw pF3 pR3 (wgf s 24) (wgf s 28) s a.2 ∧ wgf a.2 24 = wgf s 24 ∧ wgf a.2 28 = wgf s 28 ∧ (∀ j : Nat, j < 2000 → 0 ≤ wga a.2 606 j ∧ wga a.2 606 j ≤ 8) ∧ tIn X ao tm nb n a.2 k l, fun a => ((n : Int) - a.1).toNat, ⟨0, rfl, by omega, j3, j4, j5, j6, j7⟩, ?_⟩
    rintro ⟨l0, s3⟩ ⟨l, q1, q2, q3, q4, q5, q6, q7⟩
    dsimp only at q1 q2 q3 q4 q5 q6 q7 ⊢
    subst q1
    have b3 := pw_bi q3 (by decide) hr2 (by omega) (by omega) (by omega) hbi
    have x3 := pw_fx q3 (by decide) hr1 (by omega) (by omega) (by omega) hfx
    have n80 := hfx.2.1
    unfold W_findTimes_36
    refine ⟨fun e2 => ⟨⟨by omega, by omega⟩, ⟨k + 1, by (try dsimp only); omega, by omega, q3, q4, q5, q6, tIn_up (by rw [show n = l by have := x3.1; omega]; rw [show n = l by have := x3.1; omega] at q7; exact q7)⟩, by (try dsimp only); omega⟩, fun e2 => ⟨⟨by omega, by omega⟩, ⟨by omega, by omega⟩, ?_⟩⟩
    have hl : l < n := by have := x3.1; omega
    obtain ⟨pk, bk⟩ := b3.2.1 k hk
    obtain ⟨pf, of, at1, at2⟩ := x3.2.2 l hl
    have gP := bk.1.1
    have gF := of.1.1
    have ctd := ct_d (b k).length (by have := gP.2.1; omega) (c l).length (by have := gF.2.1; omega)
    have c9 := gF.2.1
    refine common2_gcd pk pf gP.1 gF.1 gP.2.2.1 gF.2.2.1 gP.2.2.2.2 gF.2.2.2.2 (fct_pab bk.1) (fct_pab of.1) (by omega) (by omega) (by omega) (fun h s4 H a1 a2 a3 a4 a5 a6 => ?_)
    have a13 := a1.2.2.1
    have a14 := a1.2.2.2
    have a42 := a4.2.1
    have a43 := a4.2.2.1
    have e602 : wga s4 602 (k : Int) = wga s3 602 (k : Int) := ps_r a1 (by decide) (by decide) (by decide)
    have e604 : wga s4 604 (l : Int) = wga s3 604 (l : Int) := ps_r a1 (by decide) (by decide) (by decide)
    have e605 : wga s4 605 (l : Int) = wga s3 605 (l : Int) := ps_r a1 (by decide) (by decide) (by decide)
    have p1 := pk.1
    have p2 := pk.2.1
    have w4 : pw pF3 pR3 (wgf s 24) (wgf s 28) s s4 := pw_tr q3 (ps_pw a1 (by omega) (by omega))
    have q64 : ∀ j : Nat, j < 2000 → 0 ≤ wga s4 606 j ∧ wga s4 606 j ≤ 8 := fun j hj => by rw [ps_r a1 (by decide) (by decide) (by decide)]; exact q6 j hj
    have q74 : tIn X ao tm nb n s4 k l := fun e i he hi => by rw [ps_r a1 (by decide) (by decide) (by decide)]; exact q7 e i he hi
    have r4 : wga s4 604 (l : Int) = (ao l : Int) ∧ wga s4 605 (l : Int) = (tm l : Int) := by
      rw [e604, e605, pw_r q3 (by decide) (by decide) (by decide) (by decide), pw_r q3 (by decide) (by decide) (by decide) (by decide)]
      exact hao l hl
    have dB : wga s4 598 (wga s4 602 (k : Int)) = ((b k).length : Int) - 1 := by
      rw [e602]
      exact (ps_pol a1 (by omega) pk).2.2.2.2.1
    have dH : wga s4 598 h = (H.length : Int) - 1 := a4.2.2.2.2.1
    have k2 : 2 ≤ (b k).length := bk.2.2.1
    have X0 : ¬ (wga s4 598 h = wga s4 598 (wga s4 602 (k : Int))) → X l k = 0 := fun q => by
      rcases (hX.1 l hl).1 k hk with w | w
      · exfalso
        refine q ?_
        rw [dH, dB, gcd_full a5 gP w.2]
      · exact w.1
    have X1 : wga s4 598 h = wga s4 598 (wga s4 602 (k : Int)) → X l k = 1 ∧ dvz (b k) (c l) := fun q => by
      rcases (hX.1 l hl).1 k hk with w | w
      · exact w
      · exfalso
        have := gcd_one a5 w.2
        rw [dH, dB] at q
        omega
    have tz : wga s4 598 h = wga s4 598 (wga s4 602 (k : Int)) → tvv X ao tm k (ao l) l = 0 := fun q => tvv_z (fun j hj ej => by
      rcases (hX.1 j (by omega)).1 k hk with w | w
      · exfalso
        have cc := hcp j l hj hl ej
        have c1 : cop (b k) (b k) := cop_qd2 (cop_qd cc (dvz_qd (X1 q).2)) (dvz_qd w.2)
        exact cop_len c1 gP k2
      · exact w.1)
    have aoB : ao l < 10 := by have := at1; rw [← e604, r4.1] at this; omega
    have fin : ∀ s5 : im_S, pw pF3 pR3 (wgf s 24) (wgf s 28) s s5 → (∀ j : Nat, j < 2000 → 0 ≤ wga s5 606 j ∧ wga s5 606 j ≤ 8) → tIn X ao tm nb n s5 k (l + 1) → W_findTimes_112 (fun b => (∃ k : Nat, b.1 = k ∧ k ≤ nb ∧ pw pF3 pR3 (wgf s 24) (wgf s 28) s b.2 ∧ wgf b.2 24 = wgf s 24 ∧ wgf b.2 28 = wgf s 28 ∧ (∀ j : Nat, j < 2000 → 0 ≤ wga b.2 606 j ∧ wga b.2 606 j ≤ 8) ∧ tIn X ao tm nb n b.2 k 0) ∧ ((nb : Int) - b.1).toNat < ((nb : Int) - k).toNat) (fun b => (∃ l : Nat, b.1 = l ∧ l ≤ n ∧ pw pF3 pR3 (wgf s 24) (wgf s 28) s b.2 ∧ wgf b.2 24 = wgf s 24 ∧ wgf b.2 28 = wgf s 28 ∧ (∀ j : Nat, j < 2000 → 0 ≤ wga b.2 606 j ∧ wga b.2 606 j ≤ 8) ∧ tIn X ao tm nb n b.2 k l) ∧ ((n : Int) - b.1).toNat < ((n : Int) - l).toNat) (k : Int) (l : Int) (wgf s3 28) (wgf s3 24) s5 Q := by
      intro s5 v1 v2 v3
      unfold W_findTimes_112
      refine giveBack_ok (fun s6 g1 g2 g3 g4 g5 => ⟨⟨by omega, by omega⟩, ⟨l + 1, by (try dsimp only); omega, by omega, ?_, by (try dsimp only); omega, by (try dsimp only); omega, fun j hj => ?_, fun e i he hi => by
        have : wga s6 606 ((10 * e + i : Nat) : Int) = wga s5 606 ((10 * e + i : Nat) : Int) := by show s6.2 606 _ = _; rw [g2]; rfl
        try dsimp only
        rw [this]; exact v3 e i he hi⟩, by (try dsimp only); omega⟩)
      · refine ⟨fun c f h => ?_, fun c i q1 q2 q3 q4 => ?_⟩
        · try dsimp only
          rw [g1 c f (fun z => h ⟨z.1, by rcases z.2 with e | e | e; exact Or.inl e; exact Or.inr (Or.inr (Or.inl e)); exact Or.inr (Or.inr (Or.inr (by rw [e]; decide)))⟩)]
          exact v1.1 c f h
        · try dsimp only
          rw [g2]; exact v1.2 c i q1 q2 q3 q4
      · have : wga s6 606 (j : Int) = wga s5 606 (j : Int) := by show s6.2 606 _ = _; rw [g2]; rfl
        try dsimp only
        rw [this]; exact v2 j hj
    refine ⟨⟨a4.1, by omega⟩, ⟨by omega, by omega⟩, by rw [e602]; exact ⟨p1, by omega⟩, fun c9 => fin s4 w4 q64 (tIn_0 q74 (X0 c9)), fun c9 => ⟨⟨by omega, by omega⟩, ⟨by omega, by omega⟩, ⟨by omega, by omega⟩, fun s5 e5 => ?_⟩⟩
    refine fin s5 (by rw [e5]; exact pw_pa w4 (by decide)) (fun j hj => ?_) (tIn_1 q74 hk (X1 c9).1 (by rw [e5, r4.1, r4.2]) aoB (tz c9))
    rw [e5]
    by_cases ej : (j : Int) = 10 * (k : Int) + wga s4 604 (l : Int)
    · rw [ej, wg_same, e605]; exact ⟨by omega, by omega⟩
    · rw [wg_ne (by omega) (by omega) ej]; exact q64 j hj
  · try dsimp only
    rw [e2]
    by_cases ej : j = i
    · subst ej; exact wg_same
    · rw [wg_ne (by omega) (by omega) (by omega)]; exact i6 j (by omega)
/-! what the factors and bases say of the atoms -/
theorem rpw_mul (x : Rat) (a : Nat) : ∀ b : Nat, x ^ (a * b) = (x ^ a) ^ b
  | 0 => by rw [Nat.mul_zero, Rat.pow_zero, Rat.pow_zero]
  | b + 1 => by rw [Nat.mul_succ, rpw_add, rpw_mul x a b, Rat.pow_succ]
theorem PRd_add {p : Nat → List Int} {m m' : Nat → Nat} {x : Rat} : ∀ n : Nat, PRd p (fun e => m e + m' e) x n = PRd p m x n * PRd p m' x n
  | 0 => (Rat.mul_one 1).symm
  | n + 1 => by
    show PRd p (fun e => m e + m' e) x n * pev (p n) x ^ (m n + m' n) = PRd p m x n * pev (p n) x ^ m n * (PRd p m' x n * pev (p n) x ^ m' n)
    rw [PRd_add n, rpw_add]
    grind
theorem PRd_pw {p : Nat → List Int} {m : Nat → Nat} {x : Rat} (t : Nat) : ∀ n : Nat, PRd p (fun e => m e * t) x n = PRd p m x n ^ t
  | 0 => (rone_pow t).symm
  | n + 1 => by
    show PRd p (fun e => m e * t) x n * pev (p n) x ^ (m n * t) = (PRd p m x n * pev (p n) x ^ m n) ^ t
    rw [PRd_pw t n, rpw_mul, rmul_pow]
theorem PRd_swap {c b : Nat → List Int} {X : Nat → Nat → Nat} {tm : Nat → Nat} {x : Rat} {N : Nat} : ∀ K : Nat, (∀ k, k < K → pev (c k) x = PRd b (X k) x N) → PRd c tm x K = PRd b (fun e => sNt (fun k => X k e * tm k) K) x N
  | 0, _ => (PRd_1 (fun _ _ => rfl)).symm
  | K + 1, h => by
    show PRd c tm x K * pev (c K) x ^ tm K = PRd b (fun e => sNt (fun k => X k e * tm k) K + X K e * tm K) x N
    rw [PRd_swap K (fun k hk => h k (by omega)), PRd_add, PRd_pw (m := X K), h K (by omega)]
theorem PRd_app {p : Nat → List Int} {f : Nat → Nat} {x : Rat} {n : Nat} : ∀ m : Nat, PRd p f x (n + m) = PRd p f x n * PRd (fun q => p (n + q)) (fun q => f (n + q)) x m
  | 0 => (Rat.mul_one _).symm
  | m + 1 => by
    show PRd p f x (n + m) * pev (p (n + m)) x ^ f (n + m) = PRd p f x n * (PRd (fun q => p (n + q)) (fun q => f (n + q)) x m * pev (p (n + m)) x ^ f (n + m))
    rw [PRd_app m]
    grind
/-- the factors of the first l atoms -/
def FV (A : Nat → List Int) (l K : Nat) (c : Nat → List Int) (ao tm : Nat → Nat) : Prop := (∀ k, k < K → ao k < l) ∧ (∀ i, i < l → (nzp (A i) → ∃ a b : Int, a ≠ 0 ∧ b ≠ 0 ∧ ∀ x : Rat, (a : Rat) * pev (A i) x = (b : Rat) * PRd c (fun k => if ao k = i then tm k else 0) x K) ∧ ((∀ j, pgt (A i) j = 0) → ∀ k, k < K → ao k ≠ i)) ∧ ∀ k k', k < k' → k' < K → ao k = ao k' → cop (c k) (c k')
theorem FV_s {A : Nat → List Int} {l n n' : Nat} {c c' : Nat → List Int} {ao tm : Nat → Nat} {s s' : im_S} {v : Nat → Int} (h : FV A l n c ao tm) (hr : rw45 s n ao tm) (he : pE s s' v (l : Int) n n' c c') (hA : A l = pmk 9 v) : ∃ ao' tm', FV A (l + 1) n' c' ao' tm' ∧ rw45 s' n' ao' tm' := by
  obtain ⟨h1, h2, h3⟩ := h
  obtain ⟨e1, e2, e3, m, t0, e4, e5, e6, e7, e8⟩ := he
  subst e4
  obtain ⟨ao', lo, hi⟩ : ∃ ao' : Nat → Nat, (∀ k, k < n → ao' k = ao k) ∧ ∀ q, ao' (n + q) = l := ⟨fun k => if k < n then ao k else l, fun k hk => if_pos hk, fun q => if_neg (by omega)⟩
  obtain ⟨tm', tl, th⟩ : ∃ tm' : Nat → Nat, (∀ k, k < n → tm' k = tm k) ∧ ∀ q, tm' (n + q) = t0 q := ⟨fun k => if k < n then tm k else t0 (k - n), fun k hk => if_pos hk, fun q => by
    show (if n + q < n then tm (n + q) else t0 (n + q - n)) = t0 q
    rw [if_neg (by omega), Nat.add_sub_cancel_left]⟩
  have up : ∀ k, ¬ k < n → k = n + (k - n) := fun k hk => by omega
  refine ⟨ao', tm', ⟨fun k hk => ?_, fun i hil => ⟨fun nz => ?_, fun z k hk => ?_⟩, fun k k' kk kn ee => ?_⟩, fun k hk => ?_⟩
  · by_cases q : k < n
    · rw [lo k q]; have := h1 k q; omega
    · rw [up k q, hi]; omega
  · by_cases q : i < l
    · obtain ⟨a, b, a0, b0, ab⟩ := (h2 i q).1 nz
      refine ⟨a, b, a0, b0, fun x => ?_⟩
      have z1 : PRd (fun q => c' (n + q)) (fun q => if ao' (n + q) = i then tm' (n + q) else 0) x m = 1 := PRd_1 (fun j _ => if_neg (by rw [hi]; omega))
      have z2 : PRd c' (fun k => if ao' k = i then tm' k else 0) x n = PRd c (fun k => if ao k = i then tm k else 0) x n := PRd_co (fun k hk => ⟨by rw [e1 k hk], by rw [lo k hk, tl k hk]⟩)
      rw [ab x, PRd_app m, z1, z2, Rat.mul_one]
    · have il : i = l := by omega
      subst il
      rw [hA] at nz ⊢
      obtain ⟨a, b, a0, b0, ab⟩ := e6 nz
      refine ⟨a, b, a0, b0, fun x => ?_⟩
      have z1 : PRd c' (fun k => if ao' k = i then tm' k else 0) x n = 1 := PRd_1 (fun j hj => if_neg (by rw [lo j hj]; have := h1 j hj; omega))
      have z2 : PRd (fun q => c' (n + q)) (fun q => if ao' (n + q) = i then tm' (n + q) else 0) x m = PRd (fun q => c' (n + q)) t0 x m := PRd_co (fun k hk => ⟨rfl, by rw [hi, th, if_pos rfl]⟩)
      rw [ab x, PRd_app m, z1, z2, Rat.one_mul]
  · by_cases q : i < l
    · by_cases w : k < n
      · rw [lo k w]; exact (h2 i q).2 z k w
      · rw [up k w, hi]; omega
    · have il : i = l := by omega
      subst il
      rw [hA] at z
      have m0 := e7 z
      rw [lo k (by omega)]
      have := h1 k (by omega)
      omega
  · by_cases w : k' < n
    · rw [lo k' w, lo k (by omega)] at ee
      rw [e1 k (by omega), e1 k' w]
      exact h3 k k' kk w ee
    · by_cases w2 : k < n
      · rw [lo k w2, up k' w, hi] at ee
        have := h1 k w2
        omega
      · have z := e8 (k - n) (k' - n) (by omega) (by omega)
        rw [show n + (k - n) = k by omega, show n + (k' - n) = k' by omega] at z
        exact z
  · by_cases q : k < n
    · rw [lo k q, tl k q, e2 _ (by omega) (by omega), e3 _ (by omega) (by omega)]
      exact hr k q
    · have z := e5 (k - n) (by omega)
      rw [← hi (k - n), ← th (k - n), show n + (k - n) = k by omega] at z
      exact z
/-- so the bases are a system of the atoms -/
theorem FV_SYS {A : Nat → List Int} {m K N : Nat} {c b : Nat → List Int} {ao tm : Nat → Nat} {X : Nat → Nat → Nat} (h : FV A m K c ao tm) (hX : XI c K N b X) (hp : pcp b N) (hb : ∀ e, e < N → nzp (b e) ∧ sqf (b e)) (ht : ∀ k, k < K → 1 ≤ tm k) : SYS A m N b (fun e i => tvv X ao tm e i K) := by
  obtain ⟨h1, h2, h3⟩ := h
  refine ⟨fun e he => ⟨(hb e he).1, (hb e he).2, ?_⟩, fun e e' he he' ne => pcp_s hp he he' ne, fun i hi => ⟨fun z e he => ?_, fun nz => ?_⟩⟩
  · obtain ⟨k, k1, k2⟩ := hX.2 e he
    refine ⟨ao k, h1 k k1, ?_⟩
    have le : ∀ l, k < l → 1 ≤ tvv X ao tm e (ao k) l := fun l => by
      induction l with
      | zero => intro q; omega
      | succ l ih =>
        intro q
        rw [tvv_s]
        by_cases w : k = l
        · subst w
          rw [k2, if_pos rfl]
          have := ht k k1
          omega
        · have := ih (by omega)
          omega
    exact le K k1
  · exact tvv_z (fun j hj q => absurd q ((h2 i hi).2 z j hj))
  · obtain ⟨a, d, a0, d0, ab⟩ := (h2 i hi).1 nz
    refine ⟨a, d, a0, d0, fun x => ?_⟩
    rw [ab x, PRd_swap K (fun k hk => (hX.1 k hk).2 x)]
    rfl
