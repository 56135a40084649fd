theorem eliminate_0 {a b : Nat} {top low p : Int} {s : im_S} {Q : im_S → Prop} (h : top < low) (hQ : Q s) : C_eliminate2 a top b low p s Q := fun _ => by
  refine ⟨fun q => q.1 = top ∧ q.2 = s, ⟨rfl, rfl⟩, ?_⟩
  rintro ⟨i, s1⟩ ⟨e, e2⟩
  dsimp only at e e2 ⊢
  subst e; subst e2
  exact ⟨fun _ => hQ, fun c => absurd h c⟩
/-- the degree of a row -/
def dgr (f : Nat → Int) (d : Int) : Prop := -1 ≤ d ∧ d ≤ 8 ∧ (∀ k : Nat, k < 9 → d < (k : Int) → f k = 0) ∧ (0 ≤ d → f d.toNat ≠ 0)
theorem degreeOf_w {c : Nat} {s : im_S} {Q : Int → im_S → Prop} (hg : gln c = 9) (hQ : ∀ d, dgr (s.2 c) d → Q d s) : C_degreeOf2 c s Q := by
  unfold C_degreeOf2
  rw [hg, w32_id (by omega) (by omega)]
  refine ⟨fun q => q.2 = s ∧ -1 ≤ q.1 ∧ q.1 ≤ 8 ∧ ∀ k : Nat, k < 9 → q.1 < (k : Int) → s.2 c k = 0, ⟨rfl, by dsimp only; omega, by dsimp only; omega, fun k k9 h => by dsimp only at h; omega⟩, ?_⟩
  rintro ⟨i, s1⟩ ⟨e, i1, i2, z⟩
  dsimp only at e i1 i2 z ⊢
  subst e
  refine ⟨fun n => hQ i ⟨i1, i2, z, fun h => by omega⟩, fun n _ => ⟨fun h => hQ i ⟨i1, i2, z, fun _ => h⟩, fun h => ?_⟩⟩
  rw [w32_id (by omega) (by omega)]
  refine ⟨rfl, by dsimp only; omega, by dsimp only; omega, fun k k9 hk => ?_⟩
  dsimp only at hk
  by_cases q : (k : Int) = i
  · have e : s1.2 c i.toNat = 0 := h
    rw [← q] at e
    exact e
  · exact z k k9 (by omega)
theorem pr_ndv {p x : Int} (h0 : 0 ≤ x) (h1 : x < p) (hx : x ≠ 0) : ¬ p ∣ x := fun d => by
  have := Int.le_of_dvd (by omega) d
  omega
theorem pmk_c {f : Nat → Int} (h : ∀ k : Nat, k < 9 → 0 < k → f k = 0) (x : Rat) : pev (pmk 9 f) x = pev [f 0] x := by
  refine pev_eq (fun k => ?_) x
  rw [pmk_gt]
  by_cases q : k < 9
  · rw [if_pos q]
    cases k with
    | zero => rfl
    | succ k => rw [h (k + 1) q (by omega)]; cases k <;> rfl
  · rw [if_neg q]
    cases k with
    | zero => omega
    | succ k => cases k <;> rfl
theorem pmk_z {f : Nat → Int} (h : ∀ k : Nat, k < 9 → f k = 0) (x : Rat) : pev (pmk 9 f) x = 0 := by
  have : pev (pmk 9 f) x = pev [] x := pev_eq (fun k => by
    rw [pmk_gt]
    by_cases q : k < 9
    · rw [if_pos q, h k q]; rfl
    · rw [if_neg q]; rfl) x
  rw [this]; rfl
/-- what the image tells, a is the last rest -/
def imS (p : Int) (F H : List Int) (d : Int) (a img : Nat → Int) : Prop := (1 ≤ d ∧ d ≤ 8) ∧ (∀ k : Nat, k < 9 → d < (k : Int) → a k = 0) ∧ ¬ p ∣ a d.toNat ∧ Inc p F H (pmk 9 a) ∧ Gen p (pmk 9 a) [] F ∧ Gen p (pmk 9 a) [] H ∧ inr9 p img ∧ (∀ k : Nat, k < 9 → p ∣ img k * a d.toNat - a k)
theorem Gen_0 {p : Int} {A B F : List Int} (h : Gen p A B F) (hB : ∀ x : Rat, pev B x = 0) : Gen p A [] F := by
  obtain ⟨l, U, V, Z, hl, e⟩ := h
  exact ⟨l, U, [], Z, hl, fun x => by rw [e x, hB x, ev_n]; grind⟩
theorem red_ev {p : Int} {F : List Int} (h9 : pdb F 9) : ∃ Z : List Int, ∀ x : Rat, pev (pmk 9 (fun k => pgt F k % p)) x = pev F x + (p : Rat) * pev Z x := by
  refine ⟨pmk 9 (fun k => -(pgt F k / p)), fun x => ?_⟩
  have key : pev (pmk 9 (fun k => pgt F k % p)) x = pev (padd F (psm p (pmk 9 (fun k => -(pgt F k / p))))) x := by
    refine pev_eq (fun k => ?_) x
    simp only [padd_gt, psm_gt, pmk_gt]
    by_cases q : k < 9
    · rw [if_pos q, if_pos q]
      have := Int.emod_add_mul_ediv (pgt F k) p
      grind
    · rw [if_neg q, if_neg q, h9 k (by omega)]; omega
  rw [key, padd_ev, psm_ev]
def imfE (s s' : im_S) : Prop := gfr (fun _ _ => False) (fun c => c = 248 ∨ c = 249 ∨ c = crf s 247 3) s s'
theorem gl9 : gln 248 = 9 ∧ gln 249 = 9 := by decide +kernel
theorem imageModulo_v {f h : Nat} {p : Int} {s : im_S} {F H : List Int} {Q : Int → im_S → Prop} (hd : dI s) (hp : prz p) (pp : ∀ a b : Int, p ∣ a * b → p ∣ a ∨ p ∣ b) (inv : ∀ v : Int, 0 < v → v < p → p ∣ v ^ (p - 2).toNat * v - 1) (hF : ply s f F) (hH : ply s h H) (of : opc f) (oh : opc h) (bF : b58 F) (bH : b58 H) (dF : 1 ≤ s.1 f 0) (dH : 1 ≤ s.1 h 0) (lF : ¬ p ∣ pgt F (s.1 f 0).toNat) (lH : ¬ p ∣ pgt H (s.1 h 0).toNat) (hQ0 : ∀ s' c, imfE s s' → ¬ p ∣ c → Inc p F H [c] → Q 0 s') (hQ1 : ∀ s' d a, imfE s s' → imS p F H d a (s'.2 (crf s 247 3)) → Q d s') : C_imageModulo2 f h p s Q := by
  have p1 := hp.1
  have p2 := hp.2
  have ne1 : ¬ p ∣ 1 := fun q => by have := Int.le_of_dvd (by decide) q; omega
  have F9 := ply_9 hF
  have H9 := ply_9 hH
  have rng : ∀ y : Int, 0 ≤ y % p ∧ y % p < p := fun y => ⟨Int.emod_nonneg _ (by omega), Int.emod_lt_of_pos _ (by omega)⟩
  have im := dI_3 hd
  obtain ⟨ic, hic⟩ : ∃ ic, ic = crf s 247 3 := ⟨_, rfl⟩
  have of1 : f + 1 ≠ 248 ∧ f + 1 ≠ 249 := by unfold opc at of; omega
  have oh1 : h + 1 ≠ 248 ∧ h + 1 ≠ 249 := by unfold opc at oh; omega
  unfold C_imageModulo2
  refine ⟨fun q => ∃ i : Nat, q.1 = (i : Int) ∧ i ≤ 9 ∧ gfr (fun _ _ => False) (fun c => c = 248 ∨ c = 249) s q.2 ∧ (∀ k, k < i → q.2.2 248 k = pgt F k % p) ∧ (∀ k, k < i → q.2.2 249 k = pgt H k % p), ⟨0, rfl, by omega, gfr_refl _ _ _, fun k hk => by omega, fun k hk => by omega⟩, ?_⟩
  rintro ⟨x, s1⟩ ⟨i, ei, i9, g1, ra, rb9⟩
  dsimp only at ei g1 ra rb9 ⊢
  subst ei
  refine ⟨fun c => ?_, fun c _ => ?_⟩
  rotate_left
  · have i8 : i < 9 := by omega
    have e1 : cga s1 (f + 1) (i : Int) = pgt F i := by
      show s1.2 (f + 1) i = _
      rw [g1.2 _ (by omega)]
      exact hF.1 i i8
    rw [e1]
    have b1 := bF i
    refine floorMod_v ⟨by omega, by omega⟩ (by omega) (by omega) ⟨by omega, by omega⟩ (fun _ s2 e2 _ => ?_)
    have g2 : gfr (fun _ _ => False) (fun c => c = 248 ∨ c = 249) s s2 := by subst e2; exact gfr_pa g1 (Or.inl rfl)
    have e3 : cga s2 (h + 1) (i : Int) = pgt H i := by
      show s2.2 (h + 1) i = _
      rw [g2.2 _ (by omega)]
      exact hH.1 i i8
    rw [e3]
    have b3 := bH i
    refine floorMod_v ⟨by omega, by omega⟩ (by omega) (by omega) ⟨by omega, by omega⟩ (fun _ s3 e3 => ?_)
    refine ⟨i + 1, w32s (by omega), by omega, by subst e3; exact gfr_pa g2 (Or.inr rfl), fun k hk => ?_, fun k hk => ?_⟩
    · show s3.2 248 k = _
      rw [e3, cpa_ne (by decide), e2, cpa_at9, show ((i : Nat) : Int).toNat = i by omega]
      by_cases q : k = i
      · rw [if_pos q, q]
      · rw [if_neg q]; exact ra k (by omega)
    · show s3.2 249 k = _
      rw [e3, cpa_at9, show ((i : Nat) : Int).toNat = i by omega]
      by_cases q : k = i
      · rw [if_pos q, q]
      · rw [if_neg q, e2, cpa_ne (by decide)]; exact rb9 k (by omega)
  have e9 : i = 9 := by omega
  subst e9
  have dgF := hF.2
  have dgH := hH.2
  have d1 : cgf s1 f 0 = s.1 f 0 := g1.1 _ _ (fun z => z)
  have d2 : cgf s1 h 0 = s.1 h 0 := g1.1 _ _ (fun z => z)
  rw [d1, d2]
  obtain ⟨tF, hTF⟩ : ∃ tF, tF = s.1 f 0 := ⟨_, rfl⟩
  obtain ⟨tH, hTH⟩ : ∃ tH, tH = s.1 h 0 := ⟨_, rfl⟩
  rw [← hTF] at dgF dF lF ⊢
  rw [← hTH] at dgH dH lH ⊢
  have ndv : ∀ y : Int, ¬ p ∣ y → y % p ≠ 0 := fun y hy q => hy (Int.dvd_of_emod_eq_zero q)
  have evA : ∀ x : Rat, pev (pmk 9 (s1.2 248)) x = pev (pmk 9 (fun k => pgt F k % p)) x := fun x => pev_eq (fun k => by
    rw [pmk_gt, pmk_gt]
    by_cases q : k < 9
    · rw [if_pos q, if_pos q, ra k q]
    · rw [if_neg q, if_neg q]) x
  have evB : ∀ x : Rat, pev (pmk 9 (s1.2 249)) x = pev (pmk 9 (fun k => pgt H k % p)) x := fun x => pev_eq (fun k => by
    rw [pmk_gt, pmk_gt]
    by_cases q : k < 9
    · rw [if_pos q, if_pos q, rb9 k q]
    · rw [if_neg q, if_neg q]) x
  obtain ⟨ZF, zF⟩ := red_ev (p := p) F9
  obtain ⟨ZH, zH⟩ := red_ev (p := p) H9
  -- the loop of Euclid
  refine ⟨fun q => ∃ (top low : Int) (t : Nat), ((q.1 = 248 ∧ q.2.1 = 249) ∨ (q.1 = 249 ∧ q.2.1 = 248)) ∧ q.2.2.1 = top ∧ q.2.2.2.1 = low ∧ q.2.2.2.2.1 = (t : Int) ∧ low + t ≤ 8 ∧ gfr (fun _ _ => False) (fun c => c = 248 ∨ c = 249) s q.2.2.2.2.2 ∧ inr9 p (q.2.2.2.2.2.2 q.1) ∧ inr9 p (q.2.2.2.2.2.2 q.2.1) ∧ 1 ≤ top ∧ dgr (q.2.2.2.2.2.2 q.1) top ∧ dgr (q.2.2.2.2.2.2 q.2.1) low ∧ Inc p F H (pmk 9 (q.2.2.2.2.2.2 q.1)) ∧ Inc p F H (pmk 9 (q.2.2.2.2.2.2 q.2.1)) ∧ Gen p (pmk 9 (q.2.2.2.2.2.2 q.1)) (pmk 9 (q.2.2.2.2.2.2 q.2.1)) F ∧ Gen p (pmk 9 (q.2.2.2.2.2.2 q.1)) (pmk 9 (q.2.2.2.2.2.2 q.2.1)) H, ⟨tF, tH, 0, Or.inl ⟨rfl, rfl⟩, rfl, rfl, rfl, by have := dgH.2.1; omega, g1, fun k k9 => by dsimp only; rw [ra k k9]; exact rng _, fun k k9 => by dsimp only; rw [rb9 k k9]; exact rng _, dF, ?_, ?_, ?_, ?_, ?_, ?_⟩, ?_⟩
  · exact ⟨by omega, dgF.2.1, fun k k9 hk => by dsimp only; rw [ra k k9, dgF.2.2.1 k (by omega)]; exact Int.zero_emod _, fun h0 => by dsimp only; rw [ra _ (by have := dgF.2.1; omega)]; exact ndv _ lF⟩
  · exact ⟨by omega, dgH.2.1, fun k k9 hk => by dsimp only; rw [rb9 k k9, dgH.2.2.1 k (by omega)]; exact Int.zero_emod _, fun h0 => by dsimp only; rw [rb9 _ (by have := dgH.2.1; omega)]; exact ndv _ lH⟩
  · exact ⟨[1], [], ZF, fun x => by dsimp only; rw [evA, zF, ev_c, ev_n, rat_i1]; grind⟩
  · exact ⟨[], [1], ZH, fun x => by dsimp only; rw [evB, zH, ev_c, ev_n, rat_i1]; grind⟩
  · exact ⟨1, [1], [], psm (-1) ZF, ne1, fun x => by dsimp only; rw [evA, zF, ev_c, ev_n, psm_ev, rat_i1, show ((-1 : Int) : Rat) = -1 from rfl]; grind⟩
  · exact ⟨1, [], [1], psm (-1) ZH, ne1, fun x => by dsimp only; rw [evB, zH, ev_c, ev_n, psm_ev, rat_i1, show ((-1 : Int) : Rat) = -1 from rfl]; grind⟩
  rintro ⟨a, b, l7, l8, l9, s2⟩ ⟨top, low, t, hab, et, el, e9, lt8, g2, rA, rB, t1, dA, dB, iA, iB, gF, gH⟩
  dsimp only at hab et el e9 g2 rA rB dA dB iA iB gF gH ⊢
  subst et; subst el; subst e9
  have ab : a ≠ b := by omega
  have aR : a = 248 ∨ a = 249 := by omega
  have bR : b = 248 ∨ b = 249 := by omega
  have gE : imfE s s2 := gfr_mono g2 (fun _ _ e => e) (fun c e => by rcases e with e | e; exact Or.inl e; exact Or.inr (Or.inl e))
  have done : l8 ≤ 0 → C_imageModulo2_128 p a l7 l8 s2 Q := fun le => by
    refine ⟨fun z => ?_, fun z => ⟨fun _ _ => ?_, fun w => absurd (show 0 ≤ l7 by omega) w⟩⟩
    · subst z
      have c0 : s2.2 b 0 ≠ 0 := dB.2.2.2 (by omega)
      have cr := rB 0 (by omega)
      refine hQ0 s2 (s2.2 b 0) gE (pr_ndv cr.1 cr.2 c0) (Inc_co iB (fun x => (pmk_c (fun k k9 k0 => dB.2.2.1 k k9 (by omega)) x).symm))
    · have l8n : l8 = -1 := by have := dB.1; omega
      have bz : ∀ k : Nat, k < 9 → s2.2 b k = 0 := fun k k9 => dB.2.2.1 k k9 (by omega)
      have lead0 := dA.2.2.2 (by omega)
      have lr := rA l7.toNat (by have := dA.2.1; omega)
      obtain ⟨v, hv⟩ : ∃ v, v = s2.2 a l7.toNat := ⟨_, rfl⟩
      rw [show cga s2 a l7 = v from hv.symm]
      rw [← hv] at lead0 lr
      refine inverse_v hp lr.1 lr.2 (fun z z0 z1 dz => ?_)
      have dz2 : p ∣ z * v - 1 := by
        obtain ⟨x1, hx1⟩ := dz
        obtain ⟨x2, hx2⟩ := inv v (by omega) lr.2
        exact ⟨x1 * v + x2, by grind⟩
      have cr2 : ∀ s', gfr (fun _ _ => False) (fun c => c = 248 ∨ c = 249 ∨ c = crf s 247 3) s s' → crf s' 247 3 = ic := fun s' g => by
        rw [hic]
        show (s'.1 247 3).toNat = (s.1 247 3).toNat
        rw [g.1 _ _ (fun z => z)]
      have icn : ic ≠ a := by rw [hic]; omega
      refine ⟨fun q => ∃ i : Nat, q.1 = (i : Int) ∧ i ≤ 9 ∧ imfE s q.2 ∧ q.2.2 a = s2.2 a ∧ ∀ k, k < i → q.2.2 ic k = s2.2 a k * z % p, ⟨0, rfl, by omega, gE, rfl, fun k hk => by omega⟩, ?_⟩
      rintro ⟨x, s3⟩ ⟨i, ei, i9, g3, ea, ri⟩
      dsimp only at ei g3 ea ri ⊢
      subst ei
      refine ⟨fun c => ?_, fun c _ _ s4 e4 => ?_⟩
      · have e9 : i = 9 := by omega
        subst e9
        refine hQ1 s3 l7 (s2.2 a) g3 ⟨⟨t1, dA.2.1⟩, dA.2.2.1, by rw [← hv]; exact pr_ndv lr.1 lr.2 lead0, iA, Gen_0 gF (pmk_z bz), Gen_0 gH (pmk_z bz), fun k k9 => ?_, fun k k9 => ?_⟩
        · rw [← hic, ri k k9]; exact rng _
        · rw [← hic, ri k k9, ← hv]
          obtain ⟨x1, hx1⟩ := dz2
          have := Int.emod_add_mul_ediv (s2.2 a k * z) p
          exact ⟨s2.2 a k * x1 - (s2.2 a k * z / p) * v, by grind⟩
      · rw [cr2 s3 g3] at e4
        have i8 : i < 9 := by omega
        have ai : cga s3 a (i : Int) = s2.2 a i := by show s3.2 a i = _; rw [ea]
        have ar := rA i i8
        have m1 := Int.mul_nonneg ar.1 z0
        have m2 : s2.2 a i * z ≤ 2147483647 * 2147483647 := Int.le_trans (Int.mul_le_mul_of_nonneg_right (show s2.2 a i ≤ 2147483647 by omega) z0) (Int.mul_le_mul_of_nonneg_left (show z ≤ 2147483647 by omega) (by decide))
        have rv : remJ (w64 (cga s3 a (i : Int) * z)) p = s2.2 a i * z % p := by
          rw [ai, w64_id (by omega) (by omega), remJ_eq ⟨by omega, by omega⟩ ⟨by omega, by omega⟩ (by omega), Int.tmod_eq_emod_of_nonneg m1]
        rw [rv] at e4
        refine ⟨i + 1, w32s (by omega), by omega, by subst e4; exact gfr_pa g3 (Or.inr (Or.inr hic)), ?_, fun k hk => ?_⟩
        · show s4.2 a = _
          rw [e4, cpa_ne icn.symm]; exact ea
        · show s4.2 ic k = _
          rw [e4, cpa_at9, show ((i : Nat) : Int).toNat = i by omega]
          by_cases q : k = i
          · rw [if_pos q, q]
          · rw [if_neg q]; exact ri k (by omega)
  refine ⟨fun c => done (by omega), fun c => ⟨fun le => done le, fun gt => ?_⟩⟩
  have lp : 1 ≤ l8 := by omega
  have l8b := dB.2.1
  have lB := dB.2.2.2 (by omega)
  have lBr := rB l8.toNat (by omega)
  have lnd : ¬ p ∣ s2.2 b l8.toNat := pr_ndv lBr.1 lBr.2 lB
  -- what is behind eliminate
  have nxt : ∀ s3, gfr (fun _ _ => False) (fun c => c = a) s2 s3 → inr9 p (s3.2 a) → (∀ k : Nat, k < 9 → l8 ≤ (k : Int) → s3.2 a k = 0) → (Inc p F H (pmk 9 (s3.2 a)) ∧ Gen p (pmk 9 (s3.2 a)) (pmk 9 (s2.2 b)) F ∧ Gen p (pmk 9 (s3.2 a)) (pmk 9 (s2.2 b)) H) → C_degreeOf2 a s3 (fun z15 s14 => ∃ (top low : Int) (t9 : Nat), ((b = 248 ∧ a = 249) ∨ (b = 249 ∧ a = 248)) ∧ l8 = top ∧ z15 = low ∧ w32 ((t : Int) + 1) = (t9 : Int) ∧ low + t9 ≤ 8 ∧ gfr (fun _ _ => False) (fun c => c = 248 ∨ c = 249) s s14 ∧ inr9 p (s14.2 b) ∧ inr9 p (s14.2 a) ∧ 1 ≤ top ∧ dgr (s14.2 b) top ∧ dgr (s14.2 a) low ∧ Inc p F H (pmk 9 (s14.2 b)) ∧ Inc p F H (pmk 9 (s14.2 a)) ∧ Gen p (pmk 9 (s14.2 b)) (pmk 9 (s14.2 a)) F ∧ Gen p (pmk 9 (s14.2 b)) (pmk 9 (s14.2 a)) H) := fun s3 g3 r3 z3 i3 => by
    have eb : s3.2 b = s2.2 b := g3.2 b (fun z => ab z.symm)
    have gl : gln a = 9 := by rcases aR with q | q <;> subst q; exact gl9.1; exact gl9.2
    refine degreeOf_w gl (fun d hd9 => ?_)
    have dl : d < l8 := Int.not_le.1 fun q => hd9.2.2.2 (by omega) (z3 d.toNat (by have := hd9.2.1; omega) (by omega))
    refine ⟨l8, d, t + 1, by omega, rfl, rfl, w32s (by omega), by omega, gfr_trans g2 (gfr_mono g3 (fun _ _ e => e) (fun c e => by omega)), by rw [eb]; exact rB, r3, lp, by rw [eb]; exact dB, hd9, by rw [eb]; exact iB, i3.1, by rw [eb]; exact Gen_sw i3.2.1, by rw [eb]; exact Gen_sw i3.2.2⟩
  by_cases tl : l7 < l8 - 1
  · exact eliminate_0 (by omega) (nxt s2 (gfr_refl _ _ _) rA (fun k k9 hk => dA.2.2.1 k k9 (by omega)) ⟨iA, gF, gH⟩)
  · refine eliminate_v (I := fun f => Inc p F H (pmk 9 f) ∧ Gen p (pmk 9 f) (pmk 9 (s2.2 b)) F ∧ Gen p (pmk 9 f) (pmk 9 (s2.2 b)) H) ab hp rA rB dA.2.1 ⟨by omega, l8b⟩ (by omega) dA.2.2.1 dB.2.2.1 ⟨iA, gF, gH⟩ (fun f f' hh sh I9 hg ee => ?_) (fun s3 g3 r3 z3 i3 => nxt s3 g3 r3 z3 i3)
    obtain ⟨Z, hZ⟩ := el_ev hg ee
    exact ⟨Inc_st hZ I9.1 iB, Gen_st pp lnd hZ I9.2.1, Gen_st pp lnd hZ I9.2.2⟩
