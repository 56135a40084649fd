theorem remI_2 {v : Nat} (h : v ≤ 999999) : remI (v : Int) 2 = ((v % 2 : Nat) : Int) := by
  unfold remI i2
  have e1 : (Int32.ofInt (v : Int) / Int32.ofInt 2).toInt = ((v : Int)).tdiv 2 := by
    rw [Int32.toInt_div_of_ne_right _ _ (by decide), im_bm (by omega) (by omega), im_bm (by decide) (by decide)]
  have e0 : (Int32.ofInt (v : Int)).toInt = (v : Int) := im_bm (by omega) (by omega)
  have e2 : ((v : Int)).tdiv 2 = (v : Int) / 2 := Int.tdiv_eq_ediv_of_nonneg (by omega)
  have e3 : Int32.ofInt (v : Int) - Int32.ofInt (v : Int) / Int32.ofInt 2 * Int32.ofInt 2 = Int32.ofInt ((v : Int) - (v : Int) / 2 * 2) := by
    rw [Int32.ofInt_sub, Int32.ofInt_mul, ← e2, ← e1, Int32.ofInt_toInt]
  show (Int32.ofInt (v : Int) - Int32.ofInt (v : Int) / Int32.ofInt 2 * Int32.ofInt 2).toInt = _
  rw [e3, im_bm (by omega) (by omega)]
  omega
theorem raise_bd {s : im_S} {a : Nat} {v w : Int} {e : Int × Int} {Q : im_S → Prop} (h : bdS s e) (hQ : ∀ s', bdS s' e → Q s') : C_raise7 a v w s Q := ⟨fun c => absurd (h.1.symm.trans c) h.2.1, fun _ => hQ _ h⟩
def rsf9 (a : Nat) (s s' : im_S) : Prop := gfr (fun c f => (c = a ∨ c = 57) ∧ f = 0) (fun c => c = a + 1 ∨ c = 58 ∨ c = 59) s s'
theorem fin9_C {v : Int} (h1 : 0 ≤ v) (h2 : v ≤ 999999) : fin9 (poC v) := fun k hk => by
  show -1000000000 ≤ (if k = 0 then v else 0) ∧ (if k = 0 then v else 0) ≤ 1000000000
  split <;> omega
theorem slp_C {s : im_S} {a : Nat} {v : Int} (h : ply s a [v]) : slp s a (poC v) := ply_eq h (fun k => by
  rw [pmk_gt]
  match k with
  | 0 => rfl
  | k + 1 =>
    show (0 : Int) = _
    split
    · show (0 : Int) = if k + 1 = 0 then v else 0
      rw [if_neg (by omega)]
    · rfl)
theorem slp_X {s : im_S} {a : Nat} (h : ply s a [0, 1]) : slp s a poX := ply_eq h (fun k => by
  rw [pmk_gt]
  match k with
  | 0 => rfl
  | 1 => rfl
  | k + 2 =>
    show (0 : Int) = _
    split
    · show (0 : Int) = if k + 2 = 1 then 1 else 0
      rw [if_neg (by omega)]
    · rfl)
theorem raise_v {s : im_S} {a v : Nat} {w : Int} {P : po} {Q : im_S → Prop} (ha : 5 ≤ a ∧ a ≤ 55) (ho : a % 2 = 1) (hv : v ≤ 999999) (h0 : s.1 2 4 = 0) (hP : slp s a P) (fP : fin9 P) (h1 : ∀ m, powo P v (some m) → ∀ s', slp s' a m → fin9 m → rsf9 a s s' → Q s') (h2 : powo P v none → ∀ s', bdS s' (3, w) → Q s') : C_raise7 a (v : Int) w s Q := by
  refine ⟨fun _ => ⟨fun v0 => ?_, fun v0 => ?_⟩, fun c => absurd h0 c⟩
  · refine copy6_b (F := pmk 9 P) hP (by omega) (fun s1 p1 f1 => ?_)
    have q1 : slp s1 57 P := p1
    have t1 : slp s1 a P := slp_fr hP f1 (by omega) (by omega)
    obtain ⟨d1, d2, d3, d4⟩ := slp_d q1
    have z1 : s1.1 2 4 = 0 := by rw [f1.1 _ _ (by omega)]; exact h0
    have main : ∀ T : Nat, (∀ r, pows P (T - 1) P r → powo P v r) → T ≤ 999999 → C_raise7_63 a w (T : Int) s1 Q := fun T hT T9 => by
      refine ⟨fun q => (∃ i : Nat, q.1 = (i : Int) ∧ 1 ≤ i ∧ (i ≤ T ∨ i = 1) ∧ q.2.1 2 4 = 0 ∧ rsf9 a s q.2 ∧ slp q.2 57 P ∧ ∃ m, slp q.2 a m ∧ fin9 m ∧ ∀ r, pows P (T - i) m r → powo P v r) ∨ (bdS q.2 (3, w) ∧ powo P v none), Or.inl ⟨1, rfl, by omega, Or.inr rfl, z1, gfr_mono f1 (fun c f e => by omega) (fun c e => by omega), q1, P, t1, fP, hT⟩, ?_⟩
      rintro ⟨x, s2⟩ hI
      dsimp only at hI ⊢
      rcases hI with ⟨i, e, i1, iT, z2, f2, q2, m, m1, m2, m3⟩ | ⟨b2, b3⟩
      · subst e
        refine ⟨fun c => ?_, fun c => ⟨fun z => absurd z2 z, fun _ => ?_⟩⟩
        · exact h1 m (m3 _ (by rw [show T - i = 0 by omega]; rfl)) s2 m1 m2 f2
        · obtain ⟨k, hk⟩ : ∃ k, T - i = k + 1 := ⟨T - i - 1, by omega⟩
          refine multiply_v ⟨by omega, by omega⟩ ⟨by omega, by omega⟩ z2 m1 q2 m2 fP (fun m' g s3 g1 g2 g3 => Or.inl ⟨i + 1, ?_, by omega, Or.inl (by omega), ?_, ?_, ?_, m', g1, g2, fun r hr => m3 r ?_⟩) (fun g s3 b3 => Or.inr ⟨b3, m3 _ (by rw [hk]; exact Or.inl ⟨g, rfl⟩)⟩)
          · dsimp only
            rw [w32_id (by omega) (by omega)]
            omega
          · dsimp only
            rw [g3.1 _ _ (by omega)]; exact z2
          · exact gfr_trans f2 (gfr_mono g3 (fun c f e => by omega) (fun c e => by omega))
          · exact slp_fr q2 g3 (by omega) (by omega)
          · rw [hk]
            exact Or.inr ⟨m', g, by rw [show k = T - (i + 1) by omega]; exact hr⟩
      · refine ⟨fun _ => h2 b3 s2 b2, fun _ => ⟨fun _ => h2 b3 s2 b2, fun c => absurd (b2.1.symm.trans c) b2.2.1⟩⟩
    have big : ¬ sml P → C_raise7_63 a w (v : Int) s1 Q := fun ns => main v (fun r hr => Or.inr ⟨by omega, Or.inr ⟨ns, hr⟩⟩) (by omega)
    refine ⟨fun c => big (fun q => ?_), fun c _ => ?_⟩
    · have c : 0 < s1.1 57 0 := c
      exact d4 (s1.1 57 0).toNat (by omega) (q.1 _ (by omega) (by omega))
    · have c : ¬ (0 < s1.1 57 0) := c
      have e0 : cga s1 (57 + 1) 0 = P 0 := by show s1.2 58 ((0 : Nat) : Int).toNat = _; exact slp_r q1 (by omega)
      have b0 := fP 0 (by omega)
      rw [e0]
      refine abs_J2 (by omega) (by omega) (fun u eu => ?_)
      by_cases q : 1 < ((P 0).natAbs : Int)
      · rw [if_pos q] at eu
        subst eu
        exact big (fun z => by have := z.2; omega)
      · rw [if_neg q, remI_2 hv, w32_id (by omega) (by omega)] at eu
        have eu : u = ((2 - v % 2 : Nat) : Int) := by omega
        subst eu
        refine main (2 - v % 2) (fun r hr => Or.inr ⟨by omega, Or.inl ⟨⟨fun k hk k1 => d3 k hk (by omega), by omega, by omega⟩, hr⟩⟩) (by omega)
  · have v0 : v = 0 := by omega
    subst v0
    exact setConstant_b (fun s1 p1 f1 => h1 _ (Or.inl ⟨rfl, rfl⟩) s1 (slp_C p1) (fin9_C (by omega) (by omega)) (gfr_mono f1 (fun c f e => by omega) (fun c e => by omega)))
