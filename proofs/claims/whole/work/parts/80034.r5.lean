/-- what raise may change at depth d -/
def rwf (d : Nat) (s s' : im_S) : Prop := gfr (fun _ _ => False) (fun c => c = 590 ∨ c = 591 ∨ c = 592 ∨ c = 596) s s' ∧ ∀ c k, (k < 9 * d ∨ 9 * d + 9 ≤ k) → (c = 590 ∨ c = 591) → s'.2 c k = s.2 c k
theorem rwf_refl (d : Nat) (s : im_S) : rwf d s s := ⟨gfr_refl _ _ _, fun _ _ _ _ => rfl⟩
theorem rwf_tr {d : Nat} {s s' s2 : im_S} (h : rwf d s s') (h2 : rwf d s' s2) : rwf d s s2 := ⟨gfr_trans h.1 h2.1, fun c k hk hc => (h2.2 c k hk hc).trans (h.2 c k hk hc)⟩
theorem rwf_m {d : Nat} {s s' : im_S} (h : mrf d s s') : rwf d s s' := ⟨gfr_mono h.1 (fun c f e => e) (fun c e => by omega), fun c k hk hc => by
  rcases hc with q | q <;> subst q
  · exact h.2 k hk
  · rw [h.1.2 _ (by omega)]⟩
theorem rwf_96 {d : Nat} {s : im_S} {i x : Int} : rwf d s (cpa s 596 i x) := ⟨gfr_pa (gfr_refl _ _ _) (by omega), fun c k _ hc => by rw [cpa_ne (by omega)]⟩
theorem rwf_pa {d k : Nat} {s : im_S} {c : Nat} {i x : Int} (hc : c = 590 ∨ c = 591) (hk : k < 9) (hi : i.toNat = 9 * d + k) : rwf d s (cpa s c i x) := ⟨gfr_pa (gfr_refl _ _ _) (by omega), fun c' k' hk' hc' => by
  by_cases q : c' = c
  · subst q
    rw [cpa_at hi, if_neg (by omega)]
  · rw [cpa_ne q]⟩
theorem raise_r {s : im_S} {d v : Nat} {w : Int} {P T0 : po} {r : Option po} {Q : im_S → Prop} (hd : d ≤ 10) (h0 : s.1 582 2 = 0) (dp : s.1 582 21 = (d : Int)) (hP : rw9 s 591 d P) (fP : fin9 P) (hT : rw9 s 590 d T0) (hv : v ≤ 999999) (hr : powo P v r) (h1 : ∀ m, r = some m → ∀ s' m', e9 m m' → rw9 s' 591 d m' → fin9 m' → rw9 s' 590 d T0 → rwf d s s' → Q s') (h2 : r = none → ∀ s', rbd s' (3, w) → Q s') : C_raise10 (v : Int) w s Q := by
  unfold C_raise10
  rw [show cgf s 582 21 = (d : Int) from dp, w32_id (by omega) (by omega)]
  refine ⟨fun q => q.2.2 = s ∧ ∃ k : Nat, q.2.1 = (k : Int) ∧ 1 ≤ k ∧ k ≤ 9 ∧ ((q.1 = 1 ∧ ∀ i, 1 ≤ i → i < k → P i = 0) ∨ (q.1 = 0 ∧ ∃ i, 1 ≤ i ∧ i < 9 ∧ P i ≠ 0)), ⟨rfl, 1, rfl, by omega, by omega, Or.inl ⟨rfl, fun i h1 h2 => by omega⟩⟩, ?_⟩
  rintro ⟨x, y, s1⟩ ⟨e1, k, ey, k1, k9, hx⟩
  dsimp only at e1 ey hx ⊢
  subst e1
  subst ey
  have bk : ∀ i : Nat, i < 9 → cga s1 591 (w32 (9 * (d : Int) + (i : Int))) = P i := fun i hi => by
    rw [w32_id (by omega) (by omega)]
    show s1.2 591 (9 * (d : Int) + (i : Int)).toNat = _
    rw [show (9 * (d : Int) + (i : Int)).toNat = 9 * d + i by omega]; exact hP i hi
  refine ⟨fun c u eu T' eT => ?_, fun c u eu => ?_⟩
  · have k99 : k = 9 := by omega
    subst k99
    have b0 : cga s1 591 (9 * (d : Int)) = P 0 := by
      show s1.2 591 (9 * (d : Int)).toNat = _
      rw [show (9 * (d : Int)).toNat = 9 * d + 0 by omega]; exact hP 0 (by omega)
    rw [b0] at eu
    have us : (u = 1 ∧ sml P) ∨ (u = 0 ∧ ¬ sml P) := by
      rcases hx with ⟨x1, z⟩ | ⟨x0, i, i1, i9, iz⟩
      · rw [x1, if_neg (by decide)] at eu
        by_cases q1 : P 0 < -1
        · rw [if_pos q1] at eu; exact Or.inr ⟨eu, fun z => by have := z.2; omega⟩
        · rw [if_neg q1] at eu
          by_cases q2 : 1 < P 0
          · rw [if_pos q2] at eu; exact Or.inr ⟨eu, fun z => by have := z.2; omega⟩
          · rw [if_neg q2] at eu; exact Or.inl ⟨eu, ⟨fun k hk k1 => z k k1 hk, by omega, by omega⟩⟩
      · rw [x0, if_pos rfl] at eu
        exact Or.inr ⟨eu, fun z => iz (z.1 i i9 i1)⟩
    obtain ⟨T, eT, hTT⟩ : ∃ T : Nat, T' = (T : Int) ∧ ((sml P ∧ 2 < v ∧ T = 2 + v % 2) ∨ (¬ (sml P ∧ 2 < v) ∧ T = v)) := by
      rcases us with ⟨u1, sm⟩ | ⟨u0, sm⟩
      · rw [u1, if_neg (by decide)] at eT
        by_cases v2 : (v : Int) ≤ 2
        · rw [if_pos v2] at eT; exact ⟨v, eT, Or.inr ⟨fun z => by omega, rfl⟩⟩
        · rw [if_neg v2, remI_2 hv, w32_id (by omega) (by omega)] at eT
          exact ⟨2 + v % 2, by omega, Or.inl ⟨sm, by omega, rfl⟩⟩
      · rw [u0, if_pos rfl] at eT
        exact ⟨v, eT, Or.inr ⟨fun z => sm z.1, rfl⟩⟩
    subst eT
    have T9 : T ≤ 999999 := by omega
    refine ⟨fun q => ∃ i : Nat, q.1 = (i : Int) ∧ i ≤ 9 ∧ rwf d s1 q.2 ∧ (∀ k, k < 9 → q.2.2 591 (9 * d + k) = P k) ∧ (∀ k, k < i → q.2.2 596 k = T0 k) ∧ ∀ k, k < 9 → q.2.2 590 (9 * d + k) = if k < i then poC 1 k else T0 k, ⟨0, rfl, by omega, rwf_refl _ _, hP, fun k hk => by omega, fun k hk => by rw [if_neg (by omega)]; exact hT k hk⟩, ?_⟩
    rintro ⟨z, s2⟩ ⟨i, ez, i9, f2, p2, t2, m2⟩
    dsimp only at ez f2 p2 t2 m2 ⊢
    subst ez
    refine ⟨fun c2 => ?_, fun c2 _ _ s3 e3 u3 eu3 _ s4 e4 => ?_⟩
    · have i99 : i = 9 := by omega
      subst i99
      have fin : ∀ (s3 : im_S) (r' : Option po), rwf d s1 s3 ∧ (∀ k, k < 9 → s3.2 596 k = T0 k) ∧ s3.1 582 2 = 0 ∧ (∃ m, r' = some m ∧ rw9 s3 590 d m ∧ fin9 m) ∨ (rbd s3 (3, w) ∧ r' = none) → pows P T (poC 1) r' → C_raise10_189 (9 * (d : Int)) s3 Q := fun s3 r' hs hp => by
        have ho := powo_ref fP hTT hr hp
        rcases hs with ⟨f3, t3, g3, m, er, m3, fm⟩ | ⟨b3, er⟩
        · subst er
          cases r with
          | none => exact ho.elim
          | some mm =>
            refine ⟨fun q => ∃ i : Nat, q.1 = (i : Int) ∧ i ≤ 9 ∧ rwf d s1 q.2 ∧ (∀ k, k < 9 → q.2.2 596 k = T0 k) ∧ (∀ k, k < 9 → q.2.2 590 (9 * d + k) = if k < i then T0 k else m k) ∧ ∀ k, k < i → q.2.2 591 (9 * d + k) = m k, ⟨0, rfl, by omega, f3, t3, fun k hk => by rw [if_neg (by omega)]; exact m3 k hk, fun k hk => by omega⟩, ?_⟩
            rintro ⟨z, s4⟩ ⟨i, ez, i9, f4, t4, m4, n4⟩
            dsimp only at ez f4 t4 m4 n4 ⊢
            subst ez
            refine ⟨fun c4 => h1 mm rfl s4 m ho (fun k hk => n4 k (by omega)) fm (fun k hk => by rw [m4 k hk, if_pos (by omega)]) f4, fun c4 _ _ s5 e5 _ _ s6 e6 => ?_⟩
            have i8 : i < 9 := by omega
            rw [w32_id (by omega) (by omega)] at e5 e6
            have y1 : cga s4 590 (9 * (d : Int) + (i : Int)) = m i := by
              show s4.2 590 (9 * (d : Int) + (i : Int)).toNat = _
              rw [show (9 * (d : Int) + (i : Int)).toNat = 9 * d + i by omega, m4 i i8, if_neg (by omega)]
            rw [y1] at e5
            have f5 : rwf d s4 s5 := by subst e5; exact rwf_pa (k := i) (Or.inr rfl) i8 (by omega)
            have y2 : cga s5 596 (i : Int) = T0 i := by
              show s5.2 596 ((i : Nat) : Int).toNat = _
              rw [Int.toNat_natCast]
              subst e5
              rw [cpa_ne (by omega)]; exact t4 i i8
            rw [y2] at e6
            have f6 : rwf d s5 s6 := by subst e6; exact rwf_pa (k := i) (Or.inl rfl) i8 (by omega)
            refine ⟨i + 1, w32s (by omega), by omega, rwf_tr f4 (rwf_tr f5 f6), fun k hk => ?_, fun k hk => ?_, fun k hk => ?_⟩
            · subst e6; subst e5; rw [cpa_ne (by omega), cpa_ne (by omega)]; exact t4 k hk
            · subst e6
              rw [cpa_at (m := 9 * d + i) (by omega)]
              by_cases ck : k = i
              · subst ck; rw [if_pos rfl, if_pos (by omega)]
              · rw [if_neg (by omega)]
                subst e5
                rw [cpa_ne (by omega), m4 k hk]
                by_cases q : k < i
                · rw [if_pos q, if_pos (by omega)]
                · rw [if_neg q, if_neg (by omega)]
            · subst e6; rw [cpa_ne (by omega)]
              subst e5
              rw [cpa_at (m := 9 * d + i) (by omega)]
              by_cases ck : k = i
              · subst ck; rw [if_pos rfl]
              · rw [if_neg (by omega)]; exact n4 k (by omega)
        · subst er
          cases r with
          | some mm => exact ho.elim
          | none =>
            refine ⟨fun q => rbd q.2 (3, w), b3, ?_⟩
            rintro ⟨z, s4⟩ b4
            dsimp only at b4 ⊢
            exact ⟨fun _ => h2 rfl s4 b4, fun _ _ _ s5 e5 _ _ s6 e6 => by subst e6; subst e5; exact b4⟩
      refine ⟨fun q => (rbd q.2 (3, w) ∧ pows P T (poC 1) none) ∨ ∃ (i : Nat) (M : po), q.1 = (i : Int) ∧ i ≤ T ∧ rwf d s1 q.2 ∧ rw9 q.2 591 d P ∧ (∀ k, k < 9 → q.2.2 596 k = T0 k) ∧ rw9 q.2 590 d M ∧ fin9 M ∧ ∀ r', pows P (T - i) M r' → pows P T (poC 1) r', Or.inr ⟨0, poC 1, rfl, by omega, f2, p2, fun k hk => t2 k (by omega), fun k hk => by rw [m2 k hk, if_pos (by omega)], fin9_C (by omega) (by omega), fun r' h => h⟩, ?_⟩
      rintro ⟨z, s3⟩ hI
      dsimp only at hI ⊢
      rcases hI with ⟨b3, n3⟩ | ⟨i, M, ez, iT, f3, p3, t3, m3, fm, bk3⟩
      · exact ⟨fun _ => fin s3 none (Or.inr ⟨b3, rfl⟩) n3, fun _ => good_r (fun q => absurd (b3.1.symm.trans q) b3.2.1) (fun _ => ⟨fun _ => fin s3 none (Or.inr ⟨b3, rfl⟩) n3, fun q => absurd rfl q⟩)⟩
      · subst ez
        have g3 : s3.1 582 2 = 0 := by rw [f3.1.1 _ _ (fun z => z)]; exact h0
        refine ⟨fun c3 => fin s3 (some M) (Or.inl ⟨f3, t3, g3, M, rfl, m3, fm⟩) (bk3 _ (by rw [show T - i = 0 by omega]; rfl)), fun c3 => good_r (fun _ => ⟨fun z => absurd z (by decide), fun _ => ?_⟩) (fun z => absurd g3 z)⟩
        obtain ⟨j, hj⟩ : ∃ j, T - i = j + 1 := ⟨T - i - 1, by omega⟩
        refine multiply_r hd g3 (by rw [f3.1.1 _ _ (fun z => z)]; exact dp) m3 p3 fm fP (fun m hm s4 m4 fm4 f4 => Or.inr ⟨i + 1, m, ?_, by omega, rwf_tr f3 (rwf_m f4), fun k hk => ?_, fun k hk => ?_, m4, fm4, fun r' h => bk3 r' ?_⟩) (fun hm s4 b4 => Or.inl ⟨b4, bk3 _ (by rw [hj]; exact Or.inl ⟨hm, rfl⟩)⟩)
        · dsimp only; rw [w32_id (by omega) (by omega)]; omega
        · rw [f4.1.2 _ (by omega)]; exact p3 k hk
        · rw [f4.1.2 _ (by omega)]; exact t3 k hk
        · rw [hj]; exact Or.inr ⟨m, hm, by rw [show j = T - (i + 1) by omega]; exact h⟩
    · have i8 : i < 9 := by omega
      rw [w32_id (x := 9 * (d : Int) + (i : Int)) (by omega) (by omega)] at e3 e4
      have y1 : cga s2 590 (9 * (d : Int) + (i : Int)) = T0 i := by
        show s2.2 590 (9 * (d : Int) + (i : Int)).toNat = _
        rw [show (9 * (d : Int) + (i : Int)).toNat = 9 * d + i by omega, m2 i i8, if_neg (by omega)]
      rw [y1] at e3
      have f3 : rwf d s2 s3 := by subst e3; exact rwf_96
      have f4 : rwf d s3 s4 := by subst e4; exact rwf_pa (k := i) (Or.inl rfl) i8 (by omega)
      refine ⟨i + 1, w32s (by omega), by omega, rwf_tr f2 (rwf_tr f3 f4), fun k hk => ?_, fun k hk => ?_, fun k hk => ?_⟩
      · subst e4; subst e3; rw [cpa_ne (by omega), cpa_ne (by omega)]; exact p2 k hk
      · subst e4; rw [cpa_ne (by omega)]
        subst e3
        rw [cpa_at (m := i) (by omega)]
        by_cases ck : k = i
        · subst ck; rw [if_pos rfl]
        · rw [if_neg ck]; exact t2 k (by omega)
      · subst e4
        rw [cpa_at (m := 9 * d + i) (by omega)]
        by_cases ck : k = i
        · subst ck
          rw [if_pos rfl, if_pos (by omega), eu3]
          show _ = if k = 0 then (1 : Int) else 0
          by_cases q : k = 0
          · rw [if_pos q, if_neg (by omega)]
          · rw [if_neg q, if_pos (by omega)]
        · rw [if_neg (by omega)]
          subst e3
          rw [cpa_ne (by omega), m2 k hk]
          by_cases q : k < i
          · rw [if_pos q, if_pos (by omega)]
          · rw [if_neg q, if_neg (by omega)]
  · have k8 : k < 9 := by omega
    rw [bk k k8] at eu
    refine ⟨rfl, k + 1, w32s (by omega), by omega, by omega, ?_⟩
    rcases hx with ⟨x1, z⟩ | ⟨x0, i, i1, i9, iz⟩
    · rw [x1, if_neg (by decide)] at eu
      by_cases q : P k = 0
      · rw [if_neg (fun z => z q)] at eu
        refine Or.inl ⟨eu, fun i h1 h2 => ?_⟩
        by_cases ci : i = k
        · rw [ci]; exact q
        · exact z i h1 (by omega)
      · rw [if_pos q] at eu
        exact Or.inr ⟨eu, k, k1, k8, q⟩
    · rw [x0, if_pos rfl] at eu
      exact Or.inr ⟨eu, i, i1, i9, iz⟩
