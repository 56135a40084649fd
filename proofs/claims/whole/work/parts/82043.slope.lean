/-! addAtom BY VALUE -/
theorem setSlope_v {a b : Nat} {s : im_S} {F : List Int} {Q : im_S → Prop} (hb : ply s b F) (hab : b ≠ a) (bF : pab F 15482880000000000) (hQ : ∀ s' G, ply s' a G → b58 G → (∀ k, pgt G k = pgt F (k + 1) * ((k : Int) + 1)) → pyf a s s' → Q s') : C_setSlopeOf6 a b s Q := by
  have h9 := ply_9 hb
  have bnd : ∀ k : Nat, k < 8 → (pgt F (k + 1) * ((k : Int) + 1)).natAbs ≤ 15482880000000000 * 8 := fun k hk => by
    rw [Int.natAbs_mul]
    exact Nat.mul_le_mul (bF (k + 1)) (by omega)
  refine ⟨fun q => ∃ i : Nat, q.1 = (i : Int) ∧ i ≤ 8 ∧ pyf a s q.2 ∧ ∀ k, k < i → q.2.2 (a + 1) k = pgt F (k + 1) * ((k : Int) + 1), ⟨0, rfl, by omega, pyf_refl _ _, fun k hk => by omega⟩, ?_⟩
  rintro ⟨x, s1⟩ ⟨i, ei, i8, f, hr⟩
  dsimp only at ei f hr ⊢
  subst ei
  have hb1 := ply_fr hb f (fun z => hab z.1) (by omega)
  refine ⟨fun c _ s2 e2 => ?_, fun c _ _ s2 e2 => ?_⟩
  · have i9 : i = 8 := by omega
    subst i9
    have r2 : ∀ k, k < 9 → s2.2 (a + 1) k = pgt F (k + 1) * ((k : Int) + 1) := fun k hk => by
      subst e2
      rw [cpa_row]
      by_cases ck : k = 8
      · rw [if_pos (by rw [ck]; rfl), ck, h9 9 (by omega), Int.zero_mul]
      · rw [if_neg (by intro z; exact ck z)]; exact hr k (by omega)
    have vv : ∀ k, pgt (pmk 9 (s2.2 (a + 1))) k = pgt F (k + 1) * ((k : Int) + 1) := fun k => by
      rw [pmk_gt]
      by_cases ck : k < 9
      · rw [if_pos ck]; exact r2 k ck
      · rw [if_neg ck, h9 (k + 1) (by omega), Int.zero_mul]
    refine measure_b (F := pmk 9 (s2.2 (a + 1))) (fun i hi => by rw [pmk_gt, if_pos hi]) (by have := pdb_len (pmk 9 (s2.2 (a + 1))); rw [pmk_len] at this; exact this) (fun s3 h3 f3 _ => hQ _ _ h3 (fun k => ?_) vv (pyf_trans (by subst e2; exact gfr_pa f rfl) f3))
    rw [vv]
    by_cases ck : k < 8
    · have := bnd k ck; omega
    · rw [h9 (k + 1) (by omega), Int.zero_mul]; decide
  · subst e2
    refine ⟨i + 1, w32s (by omega), by omega, gfr_pa f rfl, fun k hk => ?_⟩
    dsimp only
    rw [cpa_row, Int.toNat_natCast]
    by_cases ck : k = i
    · rw [if_pos ck, ck]
      have e1 : w32 ((i : Int) + 1) = ((i + 1 : Nat) : Int) := w32s (by omega)
      have e2 : cga s1 (b + 1) (w32 ((i : Int) + 1)) = pgt F (i + 1) := by
        rw [e1]
        show s1.2 (b + 1) ((i + 1 : Nat) : Int).toNat = _
        rw [Int.toNat_natCast]
        exact hb1.1 (i + 1) (by omega)
      rw [e2, e1, show ((i + 1 : Nat) : Int) = (i : Int) + 1 by omega]
      have m := bnd i (by omega)
      exact w64_id (by omega) (by omega)
    · rw [if_neg ck]; exact hr k (by omega)
/-- C without its greatest common divisor with its derivative has no double roots -/
theorem sqf_core {C S Dv K1 K2 : List Int} (nC : nzp C) (hS : ∀ k, pgt S k = pgt C (k + 1) * ((k : Int) + 1)) (e1 : ∀ x : Rat, pev C x = pev Dv x * pev K1 x) (e2 : ∀ x : Rat, pev S x = pev Dv x * pev K2 x) (cK : cop K1 K2) : sqf K1 := by
  obtain ⟨nD, nK⟩ := ne_of_mul e1 nC
  obtain ⟨C', c1, c2⟩ := trim C
  obtain ⟨D', d1, d2⟩ := trim Dv
  obtain ⟨W, w1, w2⟩ := trim K1
  have len : ∀ {P P' : List Int}, nzp P → lnz P' → (∀ k, pgt P' k = pgt P k) → 1 ≤ P'.length := fun {P P'} hP _ h => by
    obtain ⟨k, hk⟩ := hP
    refine Nat.not_lt.1 fun z => hk ?_
    rw [← h k, pgt_hi P' k (by omega)]
  have evS : ∀ x : Rat, pev (pdl C') x = ((1 : Int) : Rat) * pev S x := fun x => by
    rw [rat_i1, pdl_co c2 x]
    have : pev (pdl C) x = pev S x := pev_eq (fun k => by rw [pdl_gt, hS]) x
    rw [this]; grind
  have W' : sqf W := sqf_quot (F := C') (G := D') (W := W) (D := S) (ga := 1) (len nC c1 c2) c1 w1 (len nK w1 w2) d1 (len nD d1 d2) (fun x => by rw [pev_eq c2 x, pev_eq d2 x, pev_eq w2 x]; exact e1 x) (by decide) evS ⟨1, K2, by decide, fun x => by rw [rat_i1, pev_eq d2 x, e2 x]; grind⟩ (by
    obtain ⟨c, u, v, c0, h⟩ := cK
    refine ⟨c, u, v, c0, fun x => ?_⟩
    rw [pev_eq d2 x, pev_eq c2 x, e1 x, e2 x, h x]; grind)
  obtain ⟨c, u, v, c0, h⟩ := W'
  exact ⟨c, u, v, c0, fun x => by rw [h x, pev_eq w2 x, pdl_co w2 x]⟩
