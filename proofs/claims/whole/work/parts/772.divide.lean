/-! divide: WHETHER A POLYNOMIAL DIVIDES ANOTHER -/
set_option maxRecDepth 100000 in
theorem gln250 : gln 250 = 9 := by decide +kernel
def widn (G : List Int) : Nat → Int
  | 0 => 1
  | i + 1 => max (widn G i) ((pgt G i).natAbs : Int)
theorem widn_1 (G : List Int) : ∀ i, 1 ≤ widn G i
  | 0 => Int.le_refl _
  | i + 1 => by have := widn_1 G i; show 1 ≤ max _ _; omega
theorem widn_ge (G : List Int) : ∀ i k, k < i → ((pgt G k).natAbs : Int) ≤ widn G i
  | 0, k, h => by omega
  | i + 1, k, h => by
    show _ ≤ max (widn G i) ((pgt G i).natAbs : Int)
    by_cases c : k = i
    · subst c; omega
    · have := widn_ge G i k (by omega); omega
theorem widn_le {G : List Int} {B : Int} (hB : 1 ≤ B) (h : ∀ k, ((pgt G k).natAbs : Int) ≤ B) : ∀ i, widn G i ≤ B
  | 0 => hB
  | i + 1 => by have := widn_le hB h i; have := h i; show max _ _ ≤ _; omega
/-- F is G times something small enough -/
def dvs (F G : List Int) : Prop := ∃ K : List Int, (∀ x : Rat, pev F x = pev G x * pev K x) ∧ ∀ j, ((pgt K j).natAbs : Int) * widn G 9 ≤ 288230376151711744
theorem ev_mono (n j : Nat) (hj : j < n) (p : Int) (x : Rat) : pev (pmk n (fun k => if k = j then p else 0)) x = p * x ^ j := by
  have h := pev_shp (P := [p]) (i := j) (n := n) (by show j + 1 ≤ n; omega) x
  have e : pmk n (fun k => if k = j then p else 0) = pmk n (fun k => if k < j then 0 else pgt [p] (k - j)) := pmk_co (fun k _ => by
    by_cases c : k = j
    · subst c; rw [if_pos rfl, if_neg (by omega), Nat.sub_self]; rfl
    · rw [if_neg c]
      by_cases c2 : k < j
      · rw [if_pos c2]
      · rw [if_neg c2]
        obtain ⟨m, hm⟩ : ∃ m, k - j = m + 1 := ⟨k - j - 1, by omega⟩
        rw [hm]; rfl)
  rw [e, h]
  show x ^ j * ((p : Rat) + x * 0) = _
  grind
theorem ev_sub_sh {G : List Int} {m j n : Nat} (hG : pdb G m) (hn : j + m ≤ n) (r : Nat → Int) (p : Int) (x : Rat) : pev (pmk n (fun k => r k - (if k < j then 0 else p * pgt G (k - j)))) x = pev (pmk n r) x - p * x ^ j * pev G x := by
  rw [pev_sub]
  have h := pev_shp (P := pmk m (pgt G)) (i := j) (n := n) (by rw [pmk_len]; exact hn) x
  have e : pmk n (fun k => if k < j then 0 else p * pgt G (k - j)) = pmk n (fun k => p * (if k < j then 0 else pgt (pmk m (pgt G)) (k - j))) := pmk_co (fun k _ => by
    by_cases c : k < j
    · rw [if_pos c, if_pos c, Int.mul_zero]
    · rw [if_neg c, if_neg c, pdb_tr hG])
  rw [e, pev_sc, h, pdb_ev hG]
  grind
theorem ev_set {n j : Nat} (hj : j < n) (q : Nat → Int) (h0 : q j = 0) (p : Int) (x : Rat) : pev (pmk n (fun k => if k = j then p else q k)) x = pev (pmk n q) x + p * x ^ j := by
  rw [← ev_mono n j hj p x, ← pev_add]
  refine congrArg (fun z => pev z x) (pmk_co (fun k _ => ?_))
  by_cases c : k = j
  · subst c; rw [if_pos rfl, if_pos rfl, h0]; omega
  · rw [if_neg c, if_neg c]; omega
/-- the top factor of a product -/
theorem top_co {R G K : List Int} {m j : Nat} (hG : pdb G (m + 1)) (hK : pdb K (j + 1)) (e : ∀ x : Rat, pev R x = pev G x * pev K x) : pgt R (m + j) = pgt G m * pgt K j := by
  rw [← pdb_top hG hK]
  exact pev_inj (fun x => by rw [pmul_ev]; exact e x) _
theorem tdiv_le_mul {a S W : Int} (h0 : 0 ≤ a) (hS : 0 ≤ S) (hW : 1 ≤ W) : a ≤ S.tdiv W ↔ a * W ≤ S := by
  rw [Int.tdiv_eq_ediv_of_nonneg hS]
  exact Int.le_ediv_iff_mul_le (by omega)
def dvf (s s' : im_S) : Prop := gfr (fun c f => c = 257 ∧ f = 0) (fun c => c = 258 ∨ c = 250) s s'
theorem divide_b {f g : Nat} {s : im_S} {F G : List Int} {Q : Int → im_S → Prop} (hF : ply s f F) (hG : ply s g G) (f1 : f ≠ 257) (f2 : f ≠ 249) (g1 : g ≠ 257) (g2 : g ≠ 249) (bF : ∀ k, ((pgt F k).natAbs : Int) ≤ 288230376151711744) (wG : w63 G) (hQ1 : dvs F G → (∃ k, pgt G k ≠ 0) → ∀ s' K, ply s' 257 K → (∀ x : Rat, pev F x = pev G x * pev K x) → dvf s s' → Q 1 s') (hQ0 : (¬ dvs F G ∨ ∀ k, pgt G k = 0) → ∀ s', dvf s s' → Q 0 s') : C_divide2 f g s Q := by
  have h9 := ply_9 hF
  have hG9 := ply_9 hG
  obtain ⟨fd1, fd2, fd3, fd4⟩ := hF.2
  obtain ⟨gd1, gd2, gd3, gd4⟩ := hG.2
  refine setConstant_b (fun s1 c1 fr1 => ?_)
  have df1 : dvf s s1 := gfr_mono fr1 (fun c k e => e) (fun c e => Or.inl e)
  have hF1 : ply s1 f F := ply_fr hF fr1 (fun z => f1 z.1) (by omega)
  have hG1 : ply s1 g G := ply_fr hG fr1 (fun z => g1 z.1) (by omega)
  have eg : s1.1 g 0 = s.1 g 0 := fr1.1 g 0 (fun z => g1 z.1)
  have ef : s1.1 f 0 = s.1 f 0 := fr1.1 f 0 (fun z => f1 z.1)
  have q0 : ∀ k, k < 9 → s1.2 258 k = 0 := fun k hk => by
    have := c1.1 k hk
    rw [this]
    cases k with
    | zero => rfl
    | succ k => rfl
  clear c1
  refine lead6_b hG1 ?_
  rw [eg]
  refine ⟨fun L0 => ?_, fun L0 => hQ0 (Or.inr ?_) s1 df1⟩
  · have dg0 : 0 ≤ s.1 g 0 := Classical.byContradiction fun c => L0 (by unfold ldc; rw [if_neg c])
    have eL : ldc (s.1 g 0) G = pgt G (s.1 g 0).toNat := by unfold ldc; rw [if_pos dg0]
    rw [eL] at L0 ⊢
    obtain ⟨m, hm⟩ : ∃ m : Nat, s.1 g 0 = (m : Int) := ⟨(s.1 g 0).toNat, by omega⟩
    have hm8 : m ≤ 8 := by omega
    rw [hm, Int.toNat_natCast] at L0 ⊢
    have gdm : pdb G (m + 1) := by rw [hm] at gd3; exact gd3
    generalize hL : pgt G m = Ld at L0
    have Lr := wG m
    rw [hL] at Lr
    refine ⟨fun q => ∃ i : Nat, q.2.1 = (i : Int) ∧ i ≤ 9 ∧ q.1 = widn G i ∧ dvf s q.2.2 ∧ (∀ k, k < 9 → q.2.2.2 258 k = 0) ∧ ∀ k, k < i → q.2.2.2 250 k = pgt F k, ⟨0, rfl, by omega, rfl, df1, q0, fun k hk => by omega⟩, ?_⟩
    rintro ⟨w, x, s2⟩ ⟨i, ei, i9, ew, fr2, z2, r2⟩
    dsimp only at ei ew fr2 z2 r2 ⊢
    subst ei
    subst ew
    have hF2 : ply s2 f F := ply_fr hF fr2 (fun z => f1 z.1) (by omega)
    have hG2 : ply s2 g G := ply_fr hG fr2 (fun z => g1 z.1) (by omega)
    refine ⟨fun c => ?_, fun c _ _ s3 e3 _ => ?_⟩
    · have i9' : i = 9 := by omega
      subst i9'
      have W1 := widn_1 G 9
      have Wg : ∀ k, ((pgt G k).natAbs : Int) ≤ widn G 9 := fun k => by
        by_cases c : k < 9
        · exact widn_ge G 9 k c
        · rw [hG9 k (by omega)]; show ((0 : Int).natAbs : Int) ≤ _; omega
      have Wle : widn G 9 ≤ 9223372036854775807 := widn_le (by decide) (fun k => by have := wG k; omega) 9
      generalize hW : widn G 9 = W at W1 Wg Wle
      have egs : ∀ s', dvf s s' → cgf s' g 0 = (m : Int) := fun s' h => (h.1 g 0 (fun z => g1 z.1)).trans hm
      have e0 : w32 (cgf s2 f 0 - cgf s2 g 0) = s.1 f 0 - m := by
        rw [egs s2 fr2, show cgf s2 f 0 = s.1 f 0 from fr2.1 f 0 (fun z => f1 z.1)]
        exact w32_id (by omega) (by omega)
      rw [e0]
      obtain ⟨J, hJ⟩ : ∃ J, J = s.1 f 0 - m := ⟨_, rfl⟩
      rw [← hJ]
      refine ⟨fun a => a.1 ≤ J ∧ -9 ≤ a.1 ∧ dvf s a.2 ∧ (∀ x : Rat, pev (pmk 9 (a.2.2 250)) x = pev F x - pev G x * pev (pmk 9 (a.2.2 258)) x) ∧ (∀ k : Nat, k < 9 → a.1 + m < k → a.2.2 250 k = 0) ∧ (∀ k : Nat, k < 9 → (k : Int) ≤ a.1 → a.2.2 258 k = 0) ∧ (∀ k, k < 9 → ((a.2.2 258 k).natAbs : Int) * W ≤ 288230376151711744) ∧ (∀ k, k < 9 → ((a.2.2 250 k).natAbs : Int) ≤ 288230376151711744 * (1 + (J - a.1))) ∧ (∀ K : List Int, (∀ x : Rat, pev F x = pev G x * pev K x) → ∀ k : Nat, k < 9 → a.1 < k → a.2.2 258 k = pgt K k), ⟨Int.le_refl _, by dsimp only; omega, fr2, fun x => ?_, fun k hk1 hk2 => ?_, fun k hk _ => z2 k hk, fun k hk => ?_, fun k hk => ?_, fun K hK k hk1 hk2 => ?_⟩, ?_⟩
      · dsimp only
        rw [pmk_co (g := pgt F) (fun k hk => r2 k hk), pdb_ev h9, pmk_co (f := s2.2 258) (g := fun _ => 0) (fun k hk => z2 k hk), pev_z 9 _ x (fun _ _ => rfl)]
        grind
      · dsimp only at hk2 ⊢
        rw [r2 k hk1]
        exact fd3 k (by omega)
      · dsimp only
        rw [z2 k hk]; show ((0 : Int).natAbs : Int) * W ≤ _; rw [show ((0 : Int).natAbs : Int) = 0 from rfl, Int.zero_mul]; decide
      · dsimp only
        rw [r2 k hk]
        have := bF k
        omega
      · dsimp only at hk2 ⊢
        rw [z2 k hk1]
        by_cases c : 0 ≤ s.1 f 0 - (m : Int) + 1
        · have kd : pdb K (s.1 f 0 - (m : Int) + 1).toNat := dcan (Z := K) (A := G) (T := F) (a := m) (fun x => by rw [hK x]; grind) gdm (by rw [hL]; exact L0) (pdb_mono fd3 (by omega))
          exact (kd k (by omega)).symm
        · have kd : pdb K 0 := dcan (Z := K) (A := G) (T := F) (a := m) (fun x => by rw [hK x]; grind) gdm (by rw [hL]; exact L0) (pdb_mono fd3 (by omega))
          exact (kd k (by omega)).symm
      rintro ⟨j9, s3⟩ ⟨jJ, j9', fr3, ev3, top3, low3, qb3, rb3, cm3⟩
      dsimp only at jJ j9' fr3 ev3 top3 low3 qb3 rb3 cm3 ⊢
      refine ⟨fun jn => ?_, fun jp _ => ?_⟩
      · refine measure_b (F := pmk 9 (s3.2 258)) (fun i hi => by rw [pmk_gt, if_pos hi]) (by have := pdb_len (pmk 9 (s3.2 258)); rw [pmk_len] at this; exact this) (fun s4 h4 f4 e4 => ?_)
        have fr4 : dvf s s4 := gfr_trans fr3 (gfr_mono f4 (fun c k e => e) (fun c e => Or.inl e))
        refine degreeOf_b (F := pmk 9 (s3.2 250)) (fun i hi => by rw [pmk_gt, if_pos hi, e4]) gln250 (fun z hz v ev => ?_)
        by_cases zc : z < 0
        · have v1 : v = 1 := by rw [ev, if_neg (by omega)]
          subst v1
          have all0 := hz.1 zc
          have id : ∀ x : Rat, pev F x = pev G x * pev (pmk 9 (s3.2 258)) x := fun x => by
            have e := ev3 x
            rw [pev_eq (P := pmk 9 (s3.2 250)) (R := []) (fun k => by
              by_cases ck : k < 9
              · exact all0 k ck
              · rw [pmk_gt, if_neg ck]; rfl) x] at e
            have e' : (0 : Rat) = pev F x - pev G x * pev (pmk 9 (s3.2 258)) x := e
            grind
          refine hQ1 ⟨pmk 9 (s3.2 258), id, fun j => ?_⟩ ⟨m, by rw [hL]; exact L0⟩ s4 _ h4 id fr4
          rw [pmk_gt, hW]
          split
          · rename_i hj; exact qb3 j hj
          · show ((0 : Int).natAbs : Int) * W ≤ _; rw [show ((0 : Int).natAbs : Int) = 0 from rfl, Int.zero_mul]; decide
        · have v1 : v = 0 := by rw [ev, if_pos (by omega)]
          subst v1
          refine hQ0 (Or.inl fun hd => zc (hz.2 fun i hi => ?_)) s4 fr4
          obtain ⟨K, hK, _⟩ := hd
          have kk := cm3 K hK
          have kd : pdb K 9 := pdb_mono (dcan (Z := K) (A := G) (T := F) (a := m) (j := 9) (fun x => by rw [hK x]; grind) gdm (by rw [hL]; exact L0) (pdb_mono h9 (by omega))) (by omega)
          refine pev_zero (fun x => ?_) i
          rw [ev3 x, hK x, pmk_co (f := s3.2 258) (g := pgt K) (fun k hk => kk k hk (by omega)), pdb_ev kd]
          grind
      · obtain ⟨j, hj⟩ : ∃ j : Nat, j9 = (j : Int) := ⟨j9.toNat, by omega⟩
        subst hj
        have jm : j + m ≤ 8 := by omega
        have gz := egs s3 fr3
        rw [gz]
        have eix : w32 ((j : Int) + (m : Int)) = ((j + m : Nat) : Int) := by rw [w32_id (by omega) (by omega)]; omega
        rw [eix]
        have ev : cga s3 250 ((j + m : Nat) : Int) = s3.2 250 (j + m) := by
          show s3.2 250 ((j + m : Nat) : Int).toNat = _
          rw [Int.toNat_natCast]
        rw [ev]
        obtain ⟨v, hv⟩ : ∃ v, v = s3.2 250 (j + m) := ⟨_, rfl⟩
        have vb := rb3 (j + m) (by omega)
        rw [← hv] at vb ⊢
        have J9 : J ≤ 8 := by omega
        have vb2 : (v.natAbs : Int) ≤ 288230376151711744 * 10 := by omega
        have ep : divJ v Ld = v.tdiv Ld := divJ_eq ⟨by omega, by omega⟩ ⟨by omega, by omega⟩ (by omega)
        rw [ep]
        obtain ⟨p, hp⟩ : ∃ p, p = v.tdiv Ld := ⟨_, rfl⟩
        rw [← hp]
        have pb : p.natAbs ≤ v.natAbs := by rw [hp, Int.natAbs_tdiv]; exact Nat.div_le_self _ _
        -- what a divisor says
        have want : ∀ K : List Int, (∀ x : Rat, pev F x = pev G x * pev K x) → v = Ld * pgt K j := by
          intro K hK
          have kk := cm3 K hK
          have kd : pdb K 9 := pdb_mono (dcan (Z := K) (A := G) (T := F) (a := m) (j := 9) (fun x => by rw [hK x]; grind) gdm (by rw [hL]; exact L0) (pdb_mono h9 (by omega))) (by omega)
          have t := top_co (R := pmk 9 (s3.2 250)) (G := G) (K := pmk (j + 1) (pgt K)) (m := m) (j := j) gdm (by have := pdb_len (pmk (j + 1) (pgt K)); rw [pmk_len] at this; exact this) (fun x => by
            rw [ev3 x, hK x]
            have e : pev K x = pev (pmk (j + 1) (pgt K)) x + pev (pmk 9 (s3.2 258)) x := by
              have : pev (pmk 9 (fun k => pgt (pmk (j + 1) (pgt K)) k + s3.2 258 k)) x = pev K x := by
                rw [← pdb_ev kd]
                refine congrArg (fun z => pev z x) (pmk_co (fun k hk => ?_))
                rw [pmk_gt]
                by_cases ck : k < j + 1
                · rw [if_pos ck, low3 k hk (by omega)]; omega
                · rw [if_neg ck, kk k hk (by omega)]; omega
              rw [← this, pev_add]
              congr 1
              exact pev_pad _ 9 x (by rw [pmk_len]; omega)
            rw [e]; grind)
          rw [pmk_gt, if_pos (by omega), pmk_gt, if_pos (by omega), hL, show m + j = j + m by omega, ← hv] at t
          exact t
        refine abs_J2 (by omega) (by omega) ?_
        have dS : divJ 288230376151711744 W = (288230376151711744 : Int).tdiv W := divJ_eq ⟨by decide, by decide⟩ ⟨by omega, by omega⟩ (by decide)
        rw [dS]
        refine ⟨fun small _ s4 e4 => ?_, fun large => ?_⟩
        · have pW : (p.natAbs : Int) * W ≤ 288230376151711744 := (tdiv_le_mul (by omega) (by decide) W1).1 small
          have fr4 : dvf s s4 := by subst e4; exact gfr_pa fr3 (Or.inl rfl)
          have q4 : ∀ k, s4.2 258 k = if k = j then p else s3.2 258 k := fun k => by
            subst e4
            show (cpa s3 258 (j : Int) p).2 258 k = _
            rw [cpa_row, Int.toNat_natCast]
          have r4 : ∀ k, s4.2 250 k = s3.2 250 k := fun k => by subst e4; rw [cpa_ne (by decide)]
          have pG : ∀ k, ((p * pgt G k).natAbs : Int) ≤ 288230376151711744 := fun k => by
            have : ((p * pgt G k).natAbs : Int) = (p.natAbs : Int) * ((pgt G k).natAbs : Int) := by rw [Int.natAbs_mul, Int.natCast_mul]
            rw [this]
            have := Int.mul_le_mul_of_nonneg_left (Wg k) (show (0 : Int) ≤ (p.natAbs : Int) by omega)
            omega
          refine ⟨fun a => ∃ i : Nat, a.1 = (i : Int) ∧ i ≤ m + 1 ∧ dvf s a.2 ∧ a.2.2 258 = s4.2 258 ∧ ∀ k, k < 9 → a.2.2 250 k = s3.2 250 k - (if j ≤ k ∧ k < j + i then p * pgt G (k - j) else 0), ⟨0, rfl, by omega, fr4, rfl, fun k hk => by dsimp only; rw [r4 k, if_neg (by omega)]; omega⟩, ?_⟩
          rintro ⟨i9, s5⟩ ⟨i, ei, im, fr5, q5, r5⟩
          dsimp only at ei fr5 q5 r5 ⊢
          subst ei
          have gz5 := egs s5 fr5
          have hG5 : ply s5 g G := ply_fr hG fr5 (fun z => g1 z.1) (by omega)
          unfold C_divide2_135
          rw [gz5]
          refine ⟨fun c5 _ => ?_, fun c5 _ _ _ s6 e6 => ?_⟩
          · have i2 : i = m + 1 := by omega
            subst i2
            rw [eix]
            have ev5 : cga s5 250 ((j + m : Nat) : Int) = v - p * Ld := by
              show s5.2 250 ((j + m : Nat) : Int).toNat = _
              rw [Int.toNat_natCast, r5 (j + m) (by omega), if_pos (by omega), show j + m - j = m by omega, hL, hv]
            rw [ev5]
            refine ⟨fun z => ?_, fun z => ?_⟩
            · have full : ∀ k, k < 9 → s5.2 250 k = s3.2 250 k - (if k < j then 0 else p * pgt G (k - j)) := fun k hk => by
                rw [r5 k hk]
                by_cases c1 : k < j
                · rw [if_neg (by omega), if_pos c1]
                · rw [if_neg c1]
                  by_cases c2 : k < j + (m + 1)
                  · rw [if_pos (by omega)]
                  · rw [if_neg (by omega), gdm (k - j) (by omega), Int.mul_zero]
              have ej : w32 ((j : Int) + -1) = (j : Int) - 1 := w32_id (by omega) (by omega)
              rw [ej]
              refine ⟨by dsimp only; omega, by dsimp only; omega, fr5, fun x => ?_, fun k k1 k2 => ?_, fun k k1 k2 => ?_, fun k hk => ?_, fun k hk => ?_, fun K hK k k1 k2 => ?_⟩
              · dsimp only
                rw [pmk_co (fun k hk => full k hk), ev_sub_sh gdm (by omega), ev3 x, q5, pmk_co (f := s4.2 258) (fun k _ => q4 k), ev_set (by omega) _ (low3 j (by omega) (Int.le_refl _))]
                grind
              · dsimp only at k2 ⊢
                rw [full k k1]
                by_cases ck : k = j + m
                · subst ck
                  rw [if_neg (by omega), show j + m - j = m by omega, hL, ← hv]; exact z
                · rw [top3 k k1 (by omega), if_neg (by omega), gdm (k - j) (by omega), Int.mul_zero]; rfl
              · dsimp only at k2 ⊢
                rw [q5, q4, if_neg (by omega)]
                exact low3 k k1 (by omega)
              · dsimp only
                rw [q5, q4]
                split
                · exact pW
                · exact qb3 k hk
              · dsimp only
                rw [full k hk]
                have a1 := rb3 k hk
                have a2 := pG (k - j)
                split <;> omega
              · dsimp only at k2 ⊢
                rw [q5, q4]
                split
                · rename_i kj
                  subst kj
                  have w := want K hK
                  rw [hp, w, Int.mul_tdiv_cancel_left _ L0]
                · exact cm3 K hK k k1 (by omega)
            · refine hQ0 (Or.inl fun hd => z ?_) s5 fr5
              obtain ⟨K, hK, _⟩ := hd
              have w := want K hK
              rw [hp, w, Int.mul_tdiv_cancel_left _ L0]
              rw [Int.mul_comm Ld]; omega
          · have ei2 : w32 ((j : Int) + (i : Int)) = ((j + i : Nat) : Int) := by rw [w32_id (by omega) (by omega)]; omega
            rw [ei2] at e6
            have ev6 : cga s5 250 ((j + i : Nat) : Int) = s3.2 250 (j + i) := by
              show s5.2 250 ((j + i : Nat) : Int).toNat = _
              rw [Int.toNat_natCast, r5 (j + i) (by omega), if_neg (by omega)]; omega
            have eg6 : cga s5 (g + 1) (i : Int) = pgt G i := by
              show s5.2 (g + 1) ((i : Nat) : Int).toNat = _
              rw [Int.toNat_natCast]
              exact hG5.1 i (by omega)
            rw [ev6, eg6] at e6
            have pg := pG i
            have rb := rb3 (j + i) (by omega)
            rw [w64_id (x := p * pgt G i) (by omega) (by omega), w64_id (by omega) (by omega)] at e6
            subst e6
            refine ⟨i + 1, w32s (by omega), by omega, gfr_pa fr5 (Or.inr rfl), ?_, fun k hk => ?_⟩
            · rw [cpa_ne (by decide)]; exact q5
            · rw [cpa_row, Int.toNat_natCast]
              by_cases ck : k = j + i
              · subst ck
                rw [if_pos rfl, if_pos (by omega), show j + i - j = i by omega]
              · rw [if_neg ck, r5 k hk]
                by_cases c1 : j ≤ k ∧ k < j + i
                · rw [if_pos c1, if_pos (by omega)]
                · rw [if_neg c1, if_neg (by omega)]
        · refine hQ0 (Or.inl fun hd => large ?_) s3 fr3
          obtain ⟨K, hK, bK⟩ := hd
          have w := want K hK
          have pk : p = pgt K j := by rw [hp, w, Int.mul_tdiv_cancel_left _ L0]
          rw [tdiv_le_mul (by omega) (by decide) W1, pk, ← hW]
          exact bK j
    · subst e3
      have vF : cga s2 (f + 1) (i : Int) = pgt F i := by
        show s2.2 (f + 1) ((i : Nat) : Int).toNat = _
        rw [Int.toNat_natCast]
        exact hF2.1 i (by omega)
      have vG : cga (cpa s2 250 (i : Int) (cga s2 (f + 1) (i : Int))) (g + 1) (i : Int) = pgt G i := by
        show (cpa s2 250 (i : Int) _).2 (g + 1) ((i : Nat) : Int).toNat = _
        rw [Int.toNat_natCast, cpa_ne (by omega)]
        exact hG2.1 i (by omega)
      rw [vG]
      have := wG i
      refine abs_J2 (by omega) (by omega) (maxJ_J ⟨i + 1, w32s (by omega), by omega, rfl, gfr_pa fr2 (Or.inr rfl), fun k hk => ?_, fun k hk => ?_⟩)
      · rw [cpa_ne (by decide)]; exact z2 k hk
      · rw [cpa_row, Int.toNat_natCast]
        by_cases ck : k = i
        · rw [if_pos ck, vF, ck]
        · rw [if_neg ck]; exact r2 k (by omega)
  · intro k
    by_cases c : 0 ≤ s.1 g 0
    · unfold ldc at L0
      rw [if_pos c] at L0
      exact absurd L0 (gd4 c)
    · exact gd3 k (by omega)
