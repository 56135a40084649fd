/-! tryFraction, giveOwnPiece -/
def lnr (a q : Int) : List Int := [-a, q]
theorem lnr_ev (a q : Int) (x : Rat) : pev (lnr a q) x = q * x - a := lnf_ev a q x
def tfF (j c f : Nat) : Prop := (c = 311 + 3 * j ∧ 1 ≤ f ∧ f ≤ 5) ∨ ((c = 551 ∨ c = 257) ∧ f = 0) ∨ ((c = 563 ∨ c = 565 ∨ c = 567) ∧ (f = 1 ∨ f = 2))
def tfW (c : Nat) : Prop := c = 552 ∨ c = 258 ∨ c = 250 ∨ c = 564 ∨ c = 566 ∨ c = 568
def tff (j : Nat) (s s' : im_S) : Prop := gfr (tfF j) tfW s s'
theorem tryFraction_b {s : im_S} {j p d : Nat} {P : List Int} {c b : Int} {Q : im_S → Prop} (hj : j < 80) (hP : ply s p P) (p1 : 86 ≤ p) (p2 : p < 246) (hd : s.1 p 0 = (d : Int)) (hp : pat P) (hr : rst s j c b) (hc : cbd c b) (b0 : 0 ≤ b) (w1 : -2147483648 ≤ s.1 (311 + 3 * j) 4) (w2 : s.1 (311 + 3 * j) 4 ≤ 2147483648) (w3 : 0 ≤ s.1 (311 + 3 * j) 5) (w4 : s.1 (311 + 3 * j) 5 ≤ 4294967295) (hQ0 : ∀ s', s'.1 (311 + 3 * j) 1 = s.1 (311 + 3 * j) 1 → s'.1 (311 + 3 * j) 2 = s.1 (311 + 3 * j) 2 → s'.1 (311 + 3 * j) 3 = s.1 (311 + 3 * j) 3 → tff j s s' → Q s') (hQ1 : ∀ (s' : im_S) (a q : Int), s'.1 (311 + 3 * j) 1 = 1 → s'.1 (311 + 3 * j) 2 = a → s'.1 (311 + 3 * j) 3 = q → 1 ≤ q → q ≤ 1000000000 → a.natAbs ≤ 4611686018427387904 → xv c b ≤ (a : Rat) / q → (a : Rat) / q ≤ xv (c + 1) b → tff j s s' → Q s') : C_tryFraction3 (311 + 3 * j) p s Q := by
  have hP1 : pdb P (d + 1) := by have := hP.2.2.2.1; rw [hd, show ((d : Int) + 1).toNat = d + 1 by omega] at this; exact this
  have L0 : pgt P d ≠ 0 := by have := hP.2.2.2.2 (by omega); rw [hd, Int.toNat_natCast] at this; exact this
  have Lb := pat_lead hp hP1 L0
  refine lead6_b hP ?_
  have eL : ldc (s.1 p 0) P = pgt P d := by unfold ldc; rw [hd, if_pos (by omega), Int.toNat_natCast]
  rw [eL]
  generalize pgt P d = L at L0 Lb
  rw [show cgf s (311 + 3 * j) 4 = s.1 (311 + 3 * j) 4 from rfl, show cgf s (311 + 3 * j) 5 = s.1 (311 + 3 * j) 5 from rfl]
  generalize s.1 (311 + 3 * j) 4 = wh at w1 w2
  generalize s.1 (311 + 3 * j) 5 = pa at w3 w4
  have m1 : (L * wh).natAbs ≤ 1000000000 * 2147483648 := by rw [Int.natAbs_mul]; exact Nat.mul_le_mul Lb (by omega)
  have m2 : (L * (pa + 1)).natAbs ≤ 1000000000 * 4294967296 := by rw [Int.natAbs_mul]; exact Nat.mul_le_mul Lb (by omega)
  have e1 : w64 (L * wh) = L * wh := w64_id (by omega) (by omega)
  have e2 : w64 (pa + 1) = pa + 1 := w64_id (by omega) (by omega)
  have e3 := ushJ_32 (w64 (L * w64 (pa + 1)))
  have u1 : 0 ≤ ushJ (w64 (L * w64 (pa + 1))) 32 ∧ ushJ (w64 (L * w64 (pa + 1))) 32 ≤ 4294967296 := by rw [e3]; omega
  have eA : w64 (w64 (L * wh) + ushJ (w64 (L * w64 (pa + 1))) 32) = L * wh + ushJ (w64 (L * w64 (pa + 1))) 32 := by rw [e1]; exact w64_id (by omega) (by omega)
  rw [eA]
  obtain ⟨A, hA⟩ : ∃ A, A = L * wh + ushJ (w64 (L * w64 (pa + 1))) 32 := ⟨_, rfl⟩
  rw [← hA]
  have Ab : A.natAbs ≤ 2147483652294967296 := by omega
  refine gcd_b (by omega) (by omega) (by omega) (by omega) (fun g g0 g1 ga gl gz => ⟨fun gn => ?_, fun _ => hQ0 s rfl rfl rfl (gfr_refl _ _ _)⟩)
  have dA : divJ A g = A.tdiv g := divJ_eq ⟨by omega, by omega⟩ ⟨by omega, by omega⟩ (by omega)
  have dL : divJ L g = L.tdiv g := divJ_eq ⟨by omega, by omega⟩ ⟨by omega, by omega⟩ (by omega)
  rw [dA, dL]
  have ab : (A.tdiv g).natAbs ≤ A.natAbs := by rw [Int.natAbs_tdiv]; exact Nat.div_le_self _ _
  have lb : (L.tdiv g).natAbs ≤ L.natAbs := by rw [Int.natAbs_tdiv]; exact Nat.div_le_self _ _
  obtain ⟨a, ha⟩ : ∃ a, a = A.tdiv g := ⟨_, rfl⟩
  obtain ⟨q, hq⟩ : ∃ q, q = L.tdiv g := ⟨_, rfl⟩
  rw [← ha, ← hq]
  rw [w64_id (x := -a) (by omega) (by omega)]
  refine setLinear_b (fun s1 h1 f1 => ?_)
  have t1 : tff j s s1 := gfr_mono f1 (fun c f e => by unfold tfF; omega) (fun c e => by unfold tfW; omega)
  have keep : ∀ s', gfr (fun c f => ((c = 551 ∨ c = 257) ∧ f = 0) ∨ ((c = 563 ∨ c = 565 ∨ c = 567) ∧ (f = 1 ∨ f = 2))) tfW s s' → Q s' := fun s' f => hQ0 s' (f.1 _ _ (by omega)) (f.1 _ _ (by omega)) (f.1 _ _ (by omega)) (gfr_mono f (fun c f e => by unfold tfF; omega) (fun c e => e))
  have k1 : gfr (fun c f => ((c = 551 ∨ c = 257) ∧ f = 0) ∨ ((c = 563 ∨ c = 565 ∨ c = 567) ∧ (f = 1 ∨ f = 2))) tfW s s1 := gfr_mono f1 (fun c f e => by omega) (fun c e => by unfold tfW; omega)
  refine abs_J2 (by omega) (by omega) ⟨fun _ => keep s1 k1, fun _ => ?_⟩
  have hP2 : ply s1 p P := ply_fr hP f1 (by omega) (by omega)
  have w63l : w63 [-a, q] := fun k => by
    match k with
    | 0 => show _ ≤ -a ∧ -a ≤ _; omega
    | 1 => show _ ≤ q ∧ q ≤ _; omega
    | k + 2 => show _ ≤ (0 : Int) ∧ (0 : Int) ≤ _; omega
  refine divide_b hP2 h1 (by omega) (by omega) (by decide) (by decide) (pat_58 hp) w63l (fun dv _ s2 K _ _ f2 => ⟨fun z => by omega, fun _ => ?_⟩) (fun _ s2 f2 => ⟨fun _ => keep s2 (gfr_trans k1 (gfr_mono f2 (fun c f e => by omega) (fun c e => by unfold tfW; omega))), fun z => absurd rfl z⟩)
  have k2 := gfr_trans k1 (gfr_mono (G := fun c f => ((c = 551 ∨ c = 257) ∧ f = 0) ∨ ((c = 563 ∨ c = 565 ∨ c = 567) ∧ (f = 1 ∨ f = 2))) (T := tfW) f2 (fun c f e => by omega) (fun c e => by unfold tfW; omega))
  have r2 : rst s2 j c b := ⟨by rw [k2.1 _ _ (by omega)]; exact hr.1, big_g hr.2 k2 (by omega) (by omega) (by unfold tfW; omega)⟩
  refine sideOf_b r2 hc b0 (by omega) (by omega) (by omega) (by omega) hj (fun z s3 hz f3 => ?_)
  have k3 := gfr_trans k2 (gfr_mono (G := fun c f => ((c = 551 ∨ c = 257) ∧ f = 0) ∨ ((c = 563 ∨ c = 565 ∨ c = 567) ∧ (f = 1 ∨ f = 2))) (T := tfW) f3 (fun c f e => by omega) (fun c e => by unfold tfW; omega))
  refine ⟨fun _ => keep s3 k3, fun z0 => ?_⟩
  obtain ⟨q0, lo, hi⟩ := hz z0
  refine setFraction_b (fun s4 a1 a2 a3 f4 => hQ1 s4 a q a1 a2 (by rw [a3]; omega) (by omega) (by omega) (by omega) ?_ ?_ (gfr_trans (gfr_mono k3 (fun c f e => by unfold tfF; omega) (fun c e => e)) (gfr_mono f4 (fun c f e => by unfold tfF; omega) (fun c e => e.elim))))
  · have qr : (0 : Rat) < q := by
      have : ((0 : Int) : Rat) < (q : Rat) := Rat.intCast_lt_intCast.2 q0
      exact this
    have e : xv c b * ((2 ^ b.toNat : Int) : Rat) = c := by
      unfold xv; rw [if_pos b0, Rat.intCast_pow]
      have := q2p b.toNat
      have e2 : ((2 : Int) : Rat) = 2 := rfl
      rw [e2]; grind
    have l' : (c : Rat) * q < a * ((2 ^ b.toNat : Int) : Rat) := by rw [← Rat.intCast_mul, ← Rat.intCast_mul]; exact Rat.intCast_lt_intCast.2 lo
    have t0 : (0 : Rat) < ((2 ^ b.toNat : Int) : Rat) := by rw [Rat.intCast_pow]; exact q2p _
    refine Rat.not_lt.1 fun lt => ?_
    have x1 := (Rat.div_lt_iff qr).1 lt
    have x2 := Rat.mul_lt_mul_of_pos_right x1 t0
    rw [← e] at l'
    grind
  · have qr : (0 : Rat) < q := by
      have : ((0 : Int) : Rat) < (q : Rat) := Rat.intCast_lt_intCast.2 q0
      exact this
    have e : xv (c + 1) b * ((2 ^ b.toNat : Int) : Rat) = ((c + 1 : Int) : Rat) := by
      unfold xv; rw [if_pos b0, Rat.intCast_pow]
      have := q2p b.toNat
      have e2 : ((2 : Int) : Rat) = 2 := rfl
      rw [e2]; grind
    have l' : (a : Rat) * ((2 ^ b.toNat : Int) : Rat) < ((c + 1 : Int) : Rat) * q := by rw [← Rat.intCast_mul, ← Rat.intCast_mul]; exact Rat.intCast_lt_intCast.2 hi
    have t0 : (0 : Rat) < ((2 ^ b.toNat : Int) : Rat) := by rw [Rat.intCast_pow]; exact q2p _
    refine Rat.not_lt.1 fun lt => ?_
    have x1 := (Rat.lt_div_iff qr).1 lt
    have x2 := Rat.mul_lt_mul_of_pos_right x1 t0
    rw [← e] at l'
    grind
/-- a linear factor that divides small enough -/
theorem dvs_lin {P P' : List Int} {d : Nat} {a q : Int} (hp : pat P) (hd : d ≤ 8) (hP : pdb P (d + 1)) (q0 : 0 < q) (e : ∀ x : Rat, pev P x = (q * x - a) * pev P' x) : dvs P (lnr a q) := by
  refine ⟨P', fun x => by rw [lnr_ev]; exact e x, fun j => ?_⟩
  have bP := pat_b hp
  obtain ⟨e0, es⟩ := lin_co (F := P) (P := P') (a := q) (b := -a) (fun x => by rw [e x, Rat.intCast_neg]; grind)
  have hP' : pdb P' d := dcan (Z := P') (A := lnr a q) (T := P) (a := 1) (fun x => by rw [lnr_ev, e x]; grind) (pdb_len _) (by show q ≠ 0; omega) (by rw [Nat.add_comm]; exact hP)
  have w : widn (lnr a q) 9 ≤ max 1 (max (a.natAbs : Int) q) := widn_le (by omega) (fun k => by
    match k with
    | 0 => show ((-a).natAbs : Int) ≤ _; omega
    | 1 => show (q.natAbs : Int) ≤ _; omega
    | k + 2 => show ((0 : Int).natAbs : Int) ≤ _; omega) 9
  have bnd : (pgt P' j).natAbs * max 1 (max a.natAbs q.natAbs) ≤ 9 * 15482880000000000 := by
    by_cases ck : d ≤ j
    · rw [hP' j ck]; show 0 * _ ≤ _; omega
    by_cases c : a.natAbs ≤ q.natAbs
    · have go : ∀ i k : Nat, d ≤ k + i → q.natAbs * (pgt P' k).natAbs ≤ i * 15482880000000000 := by
        intro i
        induction i with
        | zero => intro k hk; rw [hP' k (by omega)]; show _ * 0 ≤ _; omega
        | succ i ih =>
          intro k hk
          have i1 := ih (k + 1) (by omega)
          have h1 := bP (k + 1)
          have h2 := es k
          have m1 : (-a * pgt P' (k + 1)).natAbs ≤ q.natAbs * (pgt P' (k + 1)).natAbs := by
            rw [Int.natAbs_mul]; exact Nat.mul_le_mul_right _ (by omega)
          have m2 : (q * pgt P' k).natAbs = q.natAbs * (pgt P' k).natAbs := Int.natAbs_mul _ _
          omega
      have g9 := go (d - j) j (by omega)
      have e1 : max 1 (max a.natAbs q.natAbs) = q.natAbs := by omega
      have e2 : (pgt P' j).natAbs * q.natAbs = q.natAbs * (pgt P' j).natAbs := Nat.mul_comm _ _
      rw [e1, e2]
      exact Nat.le_trans g9 (Nat.mul_le_mul_right _ (by omega))
    · have go : ∀ k : Nat, a.natAbs * (pgt P' k).natAbs ≤ (k + 1) * 15482880000000000 := by
        intro k
        induction k with
        | zero =>
          have h1 := bP 0
          have m2 : (-a * pgt P' 0).natAbs = a.natAbs * (pgt P' 0).natAbs := by rw [Int.natAbs_mul, Int.natAbs_neg]
          omega
        | succ k ih =>
          have h1 := bP (k + 1)
          have h2 := es k
          have m1 : (q * pgt P' k).natAbs ≤ a.natAbs * (pgt P' k).natAbs := by
            rw [Int.natAbs_mul]; exact Nat.mul_le_mul_right _ (by omega)
          have m2 : (-a * pgt P' (k + 1)).natAbs = a.natAbs * (pgt P' (k + 1)).natAbs := by rw [Int.natAbs_mul, Int.natAbs_neg]
          omega
      have g9 := go j
      have e1 : max 1 (max a.natAbs q.natAbs) = a.natAbs := by omega
      have e2 : (pgt P' j).natAbs * a.natAbs = a.natAbs * (pgt P' j).natAbs := Nat.mul_comm _ _
      rw [e1, e2]
      exact Nat.le_trans g9 (Nat.mul_le_mul_right _ (by omega))
  have x1 : ((pgt P' j).natAbs : Int) * widn (lnr a q) 9 ≤ ((pgt P' j).natAbs : Int) * max 1 (max (a.natAbs : Int) q) := Int.mul_le_mul_of_nonneg_left w (by omega)
  have x2 : ((pgt P' j).natAbs : Int) * max 1 (max (a.natAbs : Int) q) = (((pgt P' j).natAbs * max 1 (max a.natAbs q.natAbs) : Nat) : Int) := by
    rw [Int.natCast_mul]; congr 1; omega
  omega
/-- what splitting off a fraction changes -/
def goF (j c f : Nat) : Prop := (c = 311 + 3 * j ∧ f = 0) ∨ (c = 551 ∧ f = 0) ∨ (c = 257 ∧ f = 0) ∨ (c = 84 ∧ f = 2) ∨ (86 ≤ c ∧ c < 246 ∧ f = 0)
def goR (c : Nat) : Prop := c = 552 ∨ c = 250 ∨ c = 258 ∨ c = 246 ∨ (87 ≤ c ∧ c < 246)
def gof (j : Nat) (s s' : im_S) : Prop := gfr (goF j) goR s s'
/-- the pieces but e are as they were -/
def psk (n e : Nat) (s s' : im_S) : Prop := ∀ e', e' < n → e' ≠ e → ∀ P, ply s (86 + 2 * e') P → ply s' (86 + 2 * e') P
theorem giveOwn_b {s : im_S} {j e n : Nat} {D a q : Int} {P : List Int} {Q : im_S → Prop} (hj : j < 80) (hB : BI s n D) (hD : D ≤ 80) (he : e < n) (hP : ply s (86 + 2 * e) P) (ha : s.1 (311 + 3 * j) 2 = a) (hq : s.1 (311 + 3 * j) 3 = q) (q1 : 1 ≤ q) (q2 : q ≤ 1000000000) (a1 : a.natAbs ≤ 4611686018427387904) (hQ1 : ∀ s' K, 1 < s.1 (86 + 2 * e) 0 → (∀ x : Rat, pev P x = (q * x - a) * pev K x) → BI s' (n + 1) D → ply s' (86 + 2 * e) K → s'.1 (311 + 3 * j) 0 = (n : Int) → psk n e s s' → gof j s s' → Q s') (hQ0 : ∀ s', (s.1 (86 + 2 * e) 0 ≤ 1 ∨ ¬ dvs P (lnr a q)) → BI s' n D → ply s' (86 + 2 * e) P → s'.1 (311 + 3 * j) 0 = (e : Int) → psk n e s s' → gof j s s' → Q s') : C_giveOwnPiece3 (311 + 3 * j) (e : Int) s Q := by
  have n80 := hB.2.1
  intro s1 e1
  rw [Int.toNat_natCast]
  have g1 : gof j s s1 := by subst e1; exact gfr_pf (gfr_refl _ _ _) (by unfold goF; omega)
  have f1 : gfr (fun c f => c = 311 + 3 * j ∧ f = 0) (fun _ => False) s s1 := by subst e1; exact gfr_pf (gfr_refl _ _ _) ⟨rfl, rfl⟩
  have B1 : BI s1 n D := BI_co hB f1 (fun e he => by omega) (fun e he z => z) (by omega) (dI_co hB.2.2.2.2 f1 (by omega) (by omega))
  have P1 : ply s1 (86 + 2 * e) P := ply_fr hP f1 (by omega) (fun z => z)
  have o1 : s1.1 (311 + 3 * j) 0 = (e : Int) := by subst e1; exact cpf_same _ _ _ _
  have d1 : s1.1 (86 + 2 * e) 0 = s.1 (86 + 2 * e) 0 := f1.1 _ _ (by omega)
  have k1 : psk n e s s1 := fun e' h1 h2 P hP => ply_fr hP f1 (by omega) (fun z => z)
  refine ⟨fun c => hQ0 s1 (Or.inl ?_) B1 P1 o1 k1 g1, fun c => ?_⟩
  · rw [← d1]; exact c
  · have c' : 1 < s1.1 (86 + 2 * e) 0 := by have : ¬ s1.1 (86 + 2 * e) 0 ≤ 1 := c; omega
    rw [show cgf s1 (311 + 3 * j) 3 = q by show s1.1 _ _ = _; rw [f1.1 _ _ (by omega)]; exact hq, show cgf s1 (311 + 3 * j) 2 = a by show s1.1 _ _ = _; rw [f1.1 _ _ (by omega)]; exact ha, w64_id (x := -a) (by omega) (by omega)]
    refine setLinear_b (fun s2 h2 f2 => ?_)
    have g2 : gof j s s2 := gfr_trans g1 (gfr_mono f2 (fun c f e => by unfold goF; omega) (fun c e => by unfold goR; omega))
    have B2 : BI s2 n D := BI_co B1 f2 (fun e he => by omega) (fun e he => by omega) (by omega) (dI_co B1.2.2.2.2 f2 (by omega) (by omega))
    have P2 : ply s2 (86 + 2 * e) P := ply_fr P1 f2 (by omega) (by omega)
    have dl : s2.1 551 0 = 1 := by
      refine dgo_u h2.2 ⟨by omega, by omega, fun k hk => ?_, fun _ => by show q ≠ 0; omega⟩
      match k with
      | 0 => exact absurd hk (by decide)
      | 1 => exact absurd hk (by decide)
      | k + 2 => rfl
    have d2 : s2.1 (86 + 2 * e) 0 = s1.1 (86 + 2 * e) 0 := f2.1 _ _ (by omega)
    have w63l : w63 [-a, q] := fun k => by
      match k with
      | 0 => show _ ≤ -a ∧ -a ≤ _; omega
      | 1 => show _ ≤ q ∧ q ≤ _; omega
      | k + 2 => show _ ≤ (0 : Int) ∧ (0 : Int) ≤ _; omega
    have k2 : psk n e s s2 := fun e' h1 h2 P hP => ply_fr (k1 e' h1 h2 P hP) f2 (by omega) (by omega)
    refine splitOff_b B2 h2 (by unfold opc; omega) (by omega) w63l he (by omega) (by omega) hD (fun s3 P' K hP' dv eK B3 K3 _ f3 kp3 s4 e4 => ?_) (fun s3 P' hP' nd f3 s4 e4 => ?_)
    · have g3 : gof j s s3 := gfr_trans g2 (gfr_mono f3 (fun c f e => by unfold goF; omega) (fun c e => by unfold goR; omega))
      have f4 : gfr (fun c f => c = 311 + 3 * j ∧ f = 0) (fun _ => False) s3 s4 := by subst e4; exact gfr_pf (gfr_refl _ _ _) ⟨rfl, rfl⟩
      refine hQ1 s4 K (by omega) (fun x => ?_) (BI_co B3 f4 (fun e he => by omega) (fun e he z => z) (by omega) (dI_co B3.2.2.2.2 f4 (by omega) (by omega))) (ply_fr K3 f4 (by omega) (fun z => z)) (by subst e4; exact cpf_same _ _ _ _) (fun e' h1 h2 P hP => ply_fr (kp3 e' h1 h2 P (k2 e' h1 h2 P hP)) f4 (by omega) (fun z => z)) (gfr_trans g3 (gfr_mono f4 (fun c f e => by unfold goF; omega) (fun c e => e.elim)))
      rw [← pev_eq (ply_u hP' P2) x, eK x]
      have := lnf_ev a q x
      rw [this]
    · have g3 : gof j s s3 := gfr_trans g2 (gfr_mono f3 (fun c f e => by unfold goF; omega) (fun c e => by unfold goR; omega))
      have f4 : gfr (fun c f => c = 311 + 3 * j ∧ f = 0) (fun _ => False) s3 s4 := by subst e4; exact gfr_pf (gfr_refl _ _ _) ⟨rfl, rfl⟩
      have B3 : BI s3 n D := BI_co B2 f3 (fun e he => by omega) (fun e he => by omega) (by omega) (dI_co B2.2.2.2.2 f3 (by omega) (by omega))
      refine hQ0 s4 (Or.inr fun dv => nd ?_) (BI_co B3 f4 (fun e he => by omega) (fun e he z => z) (by omega) (dI_co B3.2.2.2.2 f4 (by omega) (by omega))) (ply_fr (ply_fr P2 f3 (by omega) (by omega)) f4 (by omega) (fun z => z)) (by subst e4; exact cpf_same _ _ _ _) (fun e' h1 h2 P hP => ply_fr (ply_fr (k2 e' h1 h2 P hP) f3 (by omega) (by omega)) f4 (by omega) (fun z => z)) (gfr_trans g3 (gfr_mono f4 (fun c f e => by unfold goF; omega) (fun c e => e.elim)))
      obtain ⟨K, h1, h2⟩ := dv
      exact ⟨K, fun x => by rw [pev_eq (ply_u hP' P2) x]; exact h1 x, h2⟩
