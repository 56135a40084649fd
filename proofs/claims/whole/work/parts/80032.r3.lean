/-- nine places of a row, from 9 d on -/
def rw9 (s : im_S) (c d : Nat) (P : po) : Prop := ∀ k, k < 9 → s.2 c (9 * d + k) = P k
def mrf (d : Nat) (s s' : im_S) : Prop := gfr (fun _ _ => False) (fun c => c = 592 ∨ c = 590) s s' ∧ ∀ k, (k < 9 * d ∨ 9 * d + 9 ≤ k) → s'.2 590 k = s.2 590 k
theorem cpa_at {s : im_S} {a : Nat} {i : Int} {x : Int} {m : Nat} (h : i.toNat = m) (k : Nat) : (cpa s a i x).2 a k = if k = m then x else s.2 a k := by
  rw [cpa_row, h]
theorem multiply_r {s : im_S} {d : Nat} {w : Int} {T B : po} {Q : im_S → Prop} (hd : d ≤ 10) (h0 : s.1 582 2 = 0) (dp : s.1 582 21 = (d : Int)) (hT : rw9 s 590 d T) (hB : rw9 s 591 d B) (fT : fin9 T) (fB : fin9 B) (h1 : ∀ m, mulo T B (some m) → ∀ s', rw9 s' 590 d m → fin9 m → mrf d s s' → Q s') (h2 : mulo T B none → ∀ s', rbd s' (3, w) → Q s') : C_multiply10 w s Q := by
  refine ⟨fun q => ∃ i : Nat, q.1 = (i : Int) ∧ i ≤ 9 ∧ gfr (fun _ _ => False) (fun c => c = 592) s q.2 ∧ ∀ k : Nat, k < i → q.2.2 592 k = 0, ⟨0, rfl, by omega, gfr_refl _ _ _, fun k hk => by omega⟩, ?_⟩
  rintro ⟨x, s1⟩ ⟨i, e, i9, f1, z1⟩
  dsimp only at e f1 z1 ⊢
  subst e
  refine ⟨fun c => ?_, fun c _ s2 e2 => ?_⟩
  · refine ⟨fun q => (rbd q.2 (3, w) ∧ ovf T B) ∨ ∃ i : Nat, q.1 = (i : Int) ∧ i ≤ 9 ∧ gfr (fun _ _ => False) (fun c => c = 592) s q.2 ∧ (∀ k : Nat, k < 9 → q.2.2 592 k = cvs T B k i) ∧ ∀ a b : Nat, a < i → b < 9 → T a ≠ 0 → B b ≠ 0 → a + b ≤ 8, Or.inr ⟨0, rfl, by omega, f1, fun k hk => z1 k (by omega), fun a b ha => by omega⟩, ?_⟩
    rintro ⟨y, s2⟩ hI
    dsimp only at hI ⊢
    rcases hI with ⟨b2, ov⟩ | ⟨i2, e, i29, f2, z2, no2⟩
    · have no : mulo T B none := Or.inl ⟨rfl, Or.inl ov⟩
      refine ⟨fun _ => ⟨fun q => rbd q.2 (3, w), b2, ?_⟩, fun _ => ⟨fun q => rbd q.2 (3, w), b2, ?_⟩⟩
      · rintro ⟨z, s3⟩ b3
        dsimp only at b3 ⊢
        exact ⟨fun _ => h2 no s3 b3, fun _ => good_r (fun q => absurd (b3.1.symm.trans q) b3.2.1) (fun _ => ⟨fun _ => h2 no s3 b3, fun q => absurd rfl q⟩)⟩
      · rintro ⟨z, s3⟩ b3
        dsimp only at b3 ⊢
        have e100 : ∀ a b, C_multiply10_100 (fun q => (rbd q.2 (3, w) ∧ ovf T B) ∨ ∃ i : Nat, q.1 = (i : Int) ∧ i ≤ 9 ∧ gfr (fun _ _ => False) (fun c => c = 592) s q.2 ∧ (∀ k : Nat, k < 9 → q.2.2 592 k = cvs T B k i) ∧ ∀ a b : Nat, a < i → b < 9 → T a ≠ 0 → B b ≠ 0 → a + b ≤ 8) (fun q => rbd q.2 (3, w)) w y z a b s3 Q := fun a b => ⟨fun _ => b3, fun _ => ⟨fun _ => b3, fun _ _ _ s4 e4 => by subst e4; exact b3⟩⟩
        exact ⟨fun _ => Or.inl ⟨b3, ov⟩, fun _ _ _ => ⟨fun _ => e100 _ _, fun _ => ⟨fun _ => e100 _ _, fun _ => ⟨fun _ => e100 _ _, fun _ => fail_rb (by rw [b3.1]; exact b3.2.1) b3⟩⟩⟩⟩
    · subst e
      refine ⟨fun c2 => ?_, fun c2 => ?_⟩
      · have i99 : i2 = 9 := by omega
        subst i99
        have nov : ¬ ovf T B := fun ⟨a, b, a1, a2, a3, a4, a5⟩ => by have := no2 a b a1 a2 a3 a4; omega
        refine ⟨fun q => (rbd q.2 (3, w) ∧ ¬ fin9 (poM T B)) ∨ ∃ i : Nat, q.1 = (i : Int) ∧ i ≤ 9 ∧ q.2.1 = s.1 ∧ mrf d s q.2 ∧ (∀ k : Nat, k < 9 → q.2.2 592 k = poM T B k) ∧ ∀ k : Nat, k < i → (q.2.2 590 (9 * d + k) = poM T B k ∧ -1000000000 ≤ poM T B k ∧ poM T B k ≤ 1000000000), Or.inr ⟨0, rfl, by omega, ?_, ⟨gfr_mono f2 (fun c f e => e) (fun c e => Or.inl e), fun k _ => by rw [f2.2 _ (by omega)]⟩, fun k hk => z2 k hk, fun k hk => by omega⟩, ?_⟩
        · exact funext (fun c => funext (fun f => f2.1 c f (fun z => z)))
        rintro ⟨z, s3⟩ hI
        dsimp only at hI ⊢
        rcases hI with ⟨b3, nf⟩ | ⟨i3, e, i39, q3, m3, z3, w3⟩
        · exact ⟨fun _ => h2 (Or.inl ⟨rfl, Or.inr nf⟩) s3 b3, fun _ => good_r (fun q => absurd (b3.1.symm.trans q) b3.2.1) (fun _ => ⟨fun _ => h2 (Or.inl ⟨rfl, Or.inr nf⟩) s3 b3, fun q => absurd rfl q⟩)⟩
        · subst e
          have g3 : s3.1 582 2 = 0 := by rw [q3]; exact h0
          refine ⟨fun c3 => ?_, fun c3 => good_r (fun _ => ⟨fun z => absurd z (by decide), fun _ _ => ?_⟩) (fun z => absurd g3 z)⟩
          · have fn : fin9 (poM T B) := fun k hk => (w3 k (by omega)).2
            exact h1 _ (Or.inr ⟨rfl, nov, fn⟩) s3 (fun k hk => (w3 k (by omega)).1) fn m3
          · have i38 : i3 < 9 := by omega
            have v3 : cga s3 592 (i3 : Int) = poM T B i3 := by show s3.2 592 ((i3 : Nat) : Int).toNat = _; rw [Int.toNat_natCast]; exact z3 i3 i38
            have dp3 : ∀ s9 : im_S, s9.1 582 21 = s3.1 582 21 → cgf s9 582 21 = (d : Int) := fun s9 h => by show s9.1 582 21 = _; rw [h, q3]; exact dp
            rw [v3]
            intro u eu
            by_cases fn : -1000000000 ≤ poM T B i3 ∧ poM T B i3 ≤ 1000000000
            · rw [if_neg (by omega), if_neg (by omega)] at eu
              subst eu
              refine ⟨fun _ => ?_, fun z => absurd z (by decide)⟩
              unfold C_multiply10_176
              rw [dp3 s3 rfl, w32_id (x := 9 * (d : Int)) (by omega) (by omega), w32_id (by omega) (by omega), v3]
              intro _ _ s4 e4
              subst e4
              refine Or.inr ⟨i3 + 1, w32s (by omega), by omega, q3, ⟨gfr_pa m3.1 (Or.inr rfl), fun k hk => ?_⟩, fun k hk => ?_, fun k hk => ?_⟩
              · rw [cpa_at (m := 9 * d + i3) (by omega), if_neg (by omega)]; exact m3.2 k hk
              · rw [cpa_ne (by omega)]; exact z3 k hk
              · rw [cpa_at (m := 9 * d + i3) (by omega)]
                by_cases ck : k = i3
                · subst ck; rw [if_pos rfl]; exact ⟨rfl, fn⟩
                · rw [if_neg (by omega)]; exact w3 k (by omega)
            · have eu : u = 0 := by
                rw [eu]
                by_cases q : poM T B i3 < -1000000000
                · rw [if_pos q]
                · rw [if_neg q, if_pos (by omega)]
              subst eu
              refine ⟨fun z => absurd rfl z, fun _ => fail_r g3 (by decide) (fun s4 b4 f4 => ?_)⟩
              unfold C_multiply10_176
              intro _ _ s5 e5
              subst e5
              exact Or.inl ⟨b4, fun q => fn (q i3 i38)⟩
      · have i28 : i2 < 9 := by omega
        refine ⟨fun q => (rbd q.2 (3, w) ∧ ovf T B) ∨ ∃ t : Nat, q.1 = (t : Int) ∧ t ≤ 9 ∧ gfr (fun _ _ => False) (fun c => c = 592) s q.2 ∧ (∀ k : Nat, k < 9 → q.2.2 592 k = cvs T B k i2 + (if i2 ≤ k ∧ k < i2 + t then T i2 * B (k - i2) else 0)) ∧ ∀ b : Nat, b < t → T i2 ≠ 0 → B b ≠ 0 → i2 + b ≤ 8, Or.inr ⟨0, rfl, by omega, f2, fun k hk => by rw [if_neg (by omega)]; rw [z2 k hk]; omega, fun b hb => by omega⟩, ?_⟩
        rintro ⟨z, s3⟩ hI
        dsimp only at hI ⊢
        rcases hI with ⟨b3, ov⟩ | ⟨t, e, t9, f3, z3, no3⟩
        · have e100 : ∀ a b K, (∀ q : Int × im_S, rbd q.2 (3, w) → K q) → C_multiply10_100 (fun q => (rbd q.2 (3, w) ∧ ovf T B) ∨ ∃ i : Nat, q.1 = (i : Int) ∧ i ≤ 9 ∧ gfr (fun _ _ => False) (fun c => c = 592) s q.2 ∧ (∀ k : Nat, k < 9 → q.2.2 592 k = cvs T B k i) ∧ ∀ a b : Nat, a < i → b < 9 → T a ≠ 0 → B b ≠ 0 → a + b ≤ 8) K w (i2 : Int) z a b s3 Q := fun a b K hK => ⟨fun _ => hK _ b3, fun _ => ⟨fun _ => hK _ b3, fun _ _ _ s4 e4 => by subst e4; exact hK _ b3⟩⟩
          exact ⟨fun _ => Or.inl ⟨b3, ov⟩, fun _ _ _ => ⟨fun _ => e100 _ _ _ (fun q b => Or.inl ⟨b, ov⟩), fun _ => ⟨fun _ => e100 _ _ _ (fun q b => Or.inl ⟨b, ov⟩), fun _ => ⟨fun _ => e100 _ _ _ (fun q b => Or.inl ⟨b, ov⟩), fun _ => fail_rb (by rw [b3.1]; exact b3.2.1) (Or.inl ⟨b3, ov⟩)⟩⟩⟩⟩
        · subst e
          refine ⟨fun c3 => Or.inr ⟨i2 + 1, w32s (by omega), by omega, f3, fun k hk => ?_, fun a b ha hb ta bb => ?_⟩, fun c3 => ?_⟩
          · rw [z3 k hk]
            show _ = cvs T B k i2 + (if i2 ≤ k then T i2 * B (k - i2) else 0)
            by_cases q : i2 ≤ k
            · rw [if_pos (by omega), if_pos q]
            · rw [if_neg (by omega), if_neg q]
          · by_cases ca : a = i2
            · subst ca; exact no3 b (by omega) ta bb
            · exact no2 a b (by omega) hb ta bb
          · have t8 : t < 9 := by omega
            have g3 : s3.1 582 2 = 0 := by rw [f3.1 _ _ (fun z => z)]; exact h0
            rw [show cgf s3 582 21 = (d : Int) by show s3.1 582 21 = _; rw [f3.1 _ _ (fun z => z)]; exact dp, w32_id (x := 9 * (d : Int)) (by omega) (by omega), w32_id (x := 9 * (d : Int) + (i2 : Int)) (by omega) (by omega), w32_id (x := 9 * (d : Int) + (t : Int)) (by omega) (by omega), w32_id (x := (i2 : Int) + (t : Int)) (by omega) (by omega)]
            have y1 : cga s3 590 (9 * (d : Int) + (i2 : Int)) = T i2 := by show s3.2 590 (9 * (d : Int) + (i2 : Int)).toNat = _; rw [show (9 * (d : Int) + (i2 : Int)).toNat = 9 * d + i2 by omega, f3.2 _ (by omega)]; exact hT i2 i28
            have y2 : cga s3 591 (9 * (d : Int) + (t : Int)) = B t := by show s3.2 591 (9 * (d : Int) + (t : Int)).toNat = _; rw [show (9 * (d : Int) + (t : Int)).toNat = 9 * d + t by omega, f3.2 _ (by omega)]; exact hB t t8
            rw [y1, y2]
            have nz : (T i2 = 0 ∨ B t = 0) → ∀ k, k < 9 → (if i2 ≤ k ∧ k < i2 + t then T i2 * B (k - i2) else 0) = (if i2 ≤ k ∧ k < i2 + (t + 1) then T i2 * B (k - i2) else 0) := fun hz k hk => by
              by_cases ck : k = i2 + t
              · subst ck
                rw [if_neg (by omega), if_pos (by omega), show i2 + t - i2 = t by omega]
                rcases hz with q | q <;> rw [q]
                · rw [Int.zero_mul]
                · rw [Int.mul_zero]
              · by_cases q : i2 ≤ k ∧ k < i2 + t
                · rw [if_pos q, if_pos (by omega)]
                · rw [if_neg q, if_neg (by omega)]
            have e100 : (T i2 = 0 ∨ B t = 0 ∨ i2 + t < 9) → C_multiply10_100 (fun q => (rbd q.2 (3, w) ∧ ovf T B) ∨ ∃ i : Nat, q.1 = (i : Int) ∧ i ≤ 9 ∧ gfr (fun _ _ => False) (fun c => c = 592) s q.2 ∧ (∀ k : Nat, k < 9 → q.2.2 592 k = cvs T B k i) ∧ ∀ a b : Nat, a < i → b < 9 → T a ≠ 0 → B b ≠ 0 → a + b ≤ 8) (fun q => (rbd q.2 (3, w) ∧ ovf T B) ∨ ∃ t : Nat, q.1 = (t : Int) ∧ t ≤ 9 ∧ gfr (fun _ _ => False) (fun c => c = 592) s q.2 ∧ (∀ k : Nat, k < 9 → q.2.2 592 k = cvs T B k i2 + (if i2 ≤ k ∧ k < i2 + t then T i2 * B (k - i2) else 0)) ∧ ∀ b : Nat, b < t → T i2 ≠ 0 → B b ≠ 0 → i2 + b ≤ 8) w (i2 : Int) (t : Int) (T i2) (B t) s3 Q := fun hz => by
              have stay : (T i2 = 0 ∨ B t = 0) → C_multiply10_130 (fun q => (rbd q.2 (3, w) ∧ ovf T B) ∨ ∃ i : Nat, q.1 = (i : Int) ∧ i ≤ 9 ∧ gfr (fun _ _ => False) (fun c => c = 592) s q.2 ∧ (∀ k : Nat, k < 9 → q.2.2 592 k = cvs T B k i) ∧ ∀ a b : Nat, a < i → b < 9 → T a ≠ 0 → B b ≠ 0 → a + b ≤ 8) (fun q => (rbd q.2 (3, w) ∧ ovf T B) ∨ ∃ t : Nat, q.1 = (t : Int) ∧ t ≤ 9 ∧ gfr (fun _ _ => False) (fun c => c = 592) s q.2 ∧ (∀ k : Nat, k < 9 → q.2.2 592 k = cvs T B k i2 + (if i2 ≤ k ∧ k < i2 + t then T i2 * B (k - i2) else 0)) ∧ ∀ b : Nat, b < t → T i2 ≠ 0 → B b ≠ 0 → i2 + b ≤ 8) w (i2 : Int) (t : Int) s3 Q := fun hz2 => by
                refine Or.inr ⟨t + 1, w32s (by omega), by omega, f3, fun k hk => by rw [← nz hz2 k hk]; exact z3 k hk, fun b hb ta bb => ?_⟩
                by_cases cb : b = t
                · subst cb
                  rcases hz2 with q | q
                  · exact absurd q ta
                  · exact absurd q bb
                · exact no3 b (by omega) ta bb
              refine ⟨fun q => stay (Or.inl q), fun q1 => ⟨fun q => stay (Or.inr q), fun q2 _ _ s4 e4 => ?_⟩⟩
              have it : i2 + t < 9 := by rcases hz with q | q | q; exact absurd q q1; exact absurd q q2; exact q
              rw [w32_id (x := (i2 : Int) + (t : Int)) (by omega) (by omega)] at e4
              subst e4
              refine Or.inr ⟨t + 1, w32s (by omega), by omega, gfr_pa f3 rfl, fun k hk => ?_, fun b hb ta bb => ?_⟩
              · rw [cpa_at (m := i2 + t) (by omega)]
                by_cases ck : k = i2 + t
                · subst ck
                  have y3 : cga s3 592 ((i2 : Int) + (t : Int)) = cvs T B (i2 + t) i2 := by
                    show s3.2 592 ((i2 : Int) + (t : Int)).toNat = _
                    rw [show ((i2 : Int) + (t : Int)).toNat = i2 + t by omega, z3 _ hk, if_neg (by omega)]
                    omega
                  rw [if_pos rfl, y3, if_pos (by omega), show i2 + t - i2 = t by omega]
                  have b1 := prod_b (fT i2 (by omega)) (fB t t8)
                  have b2 := cvs_b fT fB hk (m := i2) (by omega)
                  generalize T i2 * B t = u1 at b1 ⊢
                  generalize cvs T B (i2 + t) i2 = u2 at b2 ⊢
                  rw [w64_id (x := u1) (by omega) (by omega), w64_id (by omega) (by omega)]
                · rw [if_neg ck, z3 k hk]
                  by_cases q : i2 ≤ k ∧ k < i2 + t
                  · rw [if_pos q, if_pos (by omega)]
                  · rw [if_neg q, if_neg (by omega)]
              · by_cases cb : b = t
                · subst cb; omega
                · exact no3 b (by omega) ta bb
            exact fun _ _ => ⟨fun q => e100 (Or.inl q), fun q1 => ⟨fun q => e100 (Or.inr (Or.inl q)), fun q2 => ⟨fun q => e100 (Or.inr (Or.inr (by omega))), fun q3 => fail_r g3 (by decide) (fun s4 b4 f4 => Or.inl ⟨b4, i2, t, i28, t8, q1, q2, by omega⟩)⟩⟩⟩
  · subst e2
    refine ⟨i + 1, w32s (by omega), by omega, gfr_pa f1 rfl, fun k hk => ?_⟩
    rw [cpa_row]
    by_cases ek : k = i
    · rw [if_pos (by omega)]
    · rw [if_neg (by omega)]; exact z1 k (by omega)
