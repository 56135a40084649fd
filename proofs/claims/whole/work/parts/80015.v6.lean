/-! slots by value: accept, addTo, negate, multiply, raise -/
def slp (s : im_S) (a : Nat) (P : po) : Prop := ply s a (pmk 9 P)
theorem slp_r {s : im_S} {a : Nat} {P : po} (h : slp s a P) {k : Nat} (hk : k < 9) : s.2 (a + 1) k = P k := by
  rw [h.1 k hk, pmk_gt, if_pos hk]
theorem slp_d {s : im_S} {a : Nat} {P : po} (h : slp s a P) : -1 ≤ s.1 a 0 ∧ s.1 a 0 ≤ 8 ∧ (∀ k : Nat, k < 9 → s.1 a 0 < k → P k = 0) ∧ (∀ k : Nat, s.1 a 0 = (k : Int) → P k ≠ 0) := by
  obtain ⟨_, d1, d2, d3, d4⟩ := h
  refine ⟨d1, d2, fun k hk hd => ?_, fun k hk => ?_⟩
  · have := d3 k (by omega)
    rw [pmk_gt, if_pos hk] at this
    exact this
  · have := d4 (by omega)
    rw [hk, Int.toNat_natCast, pmk_gt, if_pos (by omega)] at this
    exact this
theorem slp_fr {F : Nat → Nat → Prop} {R : Nat → Prop} {s s' : im_S} {a : Nat} {P : po} (h : slp s a P) (f : gfr F R s s') (h1 : ¬ F a 0) (h2 : ¬ R (a + 1)) : slp s' a P := ply_fr h f h1 h2
theorem slp_eq {s : im_S} {a : Nat} {P P' : po} (h : slp s a P) (e : ∀ k, k < 9 → P k = P' k) : slp s a P' := by
  unfold slp
  rw [← pmk_co e]
  exact h
theorem accept_v {s : im_S} {a : Nat} {w : Int} {R : po} {Q : im_S → Prop} (ha : 5 ≤ a ∧ a ≤ 57) (h0 : s.1 2 4 = 0) (hR : ∀ k : Nat, k < 9 → s.2 59 k = R k) (hb : ∀ k : Nat, k < 9 → -9000000000000000000 ≤ R k ∧ R k ≤ 9000000000000000000) (h1 : fin9 R → ∀ s', slp s' a R → pyf a s s' → Q s') (h2 : ¬ fin9 R → ∀ s', bdS s' (3, w) → Q s') : C_accept7 a w s Q := by
  refine ⟨fun _ => ?_, fun c => absurd h0 c⟩
  refine ⟨fun q => ∃ i : Nat, q.1 = (i : Int) ∧ i ≤ 9 ∧ pyf a s q.2 ∧ ∀ k : Nat, k < i → (q.2.2 (a + 1) k = R k ∧ -1000000000 ≤ R k ∧ R k ≤ 1000000000), ⟨0, rfl, by omega, pyf_refl _ _, fun k hk => by omega⟩, ?_⟩
  rintro ⟨x, s1⟩ ⟨i, e, i9, f1, hi⟩
  dsimp only at e f1 hi ⊢
  subst e
  have r59 : ∀ k : Nat, k < 9 → s1.2 59 k = R k := fun k hk => by rw [f1.2 _ (by omega)]; exact hR k hk
  refine ⟨fun c => ?_, fun c _ => ?_⟩
  · refine measure_b (F := pmk 9 R) (fun k hk => ?_) ?_ (fun s3 h3 f3 e3 => h1 (fun k hk => (hi k (by omega)).2) s3 h3 (pyf_trans f1 f3))
    · rw [pmk_gt, if_pos hk]; exact (hi k (by omega)).1
    · have := pdb_len (pmk 9 R)
      rw [pmk_len] at this; exact this
  · have i8 : i < 9 := by omega
    have v59 : cga s1 59 (i : Int) = R i := by show s1.2 59 ((i : Nat) : Int).toNat = _; rw [Int.toNat_natCast]; exact r59 i i8
    have b := hb i i8
    rw [v59]
    refine abs_J2 (by omega) (by omega) ⟨fun z _ _ s2 e2 => ?_, fun z => ?_⟩
    · subst e2
      refine ⟨i + 1, w32s (by omega), by omega, gfr_pa f1 rfl, fun k hk => ?_⟩
      rw [cpa_row]
      by_cases ck : k = i
      · subst ck
        rw [if_pos (by omega), v59]
        exact ⟨rfl, by omega, by omega⟩
      · rw [if_neg (by omega)]; exact hi k (by omega)
    · exact fail_g (by rw [f1.1 _ _ (by omega)]; exact h0) (by decide) (fun s2 b2 _ => h2 (fun q => by have := q i i8; omega) s2 b2)
theorem accept_b {s : im_S} {a : Nat} {w : Int} {e : Int × Int} {Q : im_S → Prop} (h : bdS s e) (hQ : ∀ s', bdS s' e → Q s') : C_accept7 a w s Q := ⟨fun c => absurd (h.1.symm.trans c) h.2.1, fun _ => hQ _ h⟩
/-- only polynomial a, its product's row have changed -/
def prf (a : Nat) (s s' : im_S) : Prop := gfr (fun c f => c = a ∧ f = 0) (fun c => c = a + 1 ∨ c = 59) s s'
theorem prf_py {a : Nat} {s s' s2 : im_S} (h : prf a s s') (h2 : pyf a s' s2) : prf a s s2 := gfr_trans h (gfr_mono h2 (fun c f e => e) (fun c e => Or.inl e))
theorem bdS_59 {s : im_S} {e : Int × Int} {i x : Int} {c : Nat} (h : bdS s e) : bdS (cpa s c i x) e := h
theorem addTo_v {s : im_S} {a b : Nat} {v w : Int} {P R : po} {Q : im_S → Prop} (ha : 5 ≤ a ∧ a ≤ 57) (hb : 5 ≤ b ∧ b ≤ 57) (hab : a ≠ 59) (h0 : s.1 2 4 = 0) (hP : slp s a P) (hR : slp s b R) (fP : fin9 P) (fR : fin9 R) (hv : v = 1 ∨ v = -1) (h1 : ∀ m, addo P R v (some m) → ∀ s', slp s' a m → fin9 m → prf a s s' → Q s') (h2 : addo P R v none → ∀ s', bdS s' (3, w) → Q s') : C_addTo7 a b v w s Q := by
  refine ⟨fun q => ∃ i : Nat, q.1 = (i : Int) ∧ i ≤ 9 ∧ gfr (fun _ _ => False) (fun c => c = 59) s q.2 ∧ ∀ k : Nat, k < i → q.2.2 59 k = P k + v * R k, ⟨0, rfl, by omega, gfr_refl _ _ _, fun k hk => by omega⟩, ?_⟩
  rintro ⟨x, s1⟩ ⟨i, e, i9, f1, p1⟩
  dsimp only at e f1 p1 ⊢
  subst e
  refine ⟨fun c => ?_, fun c _ _ _ s2 e2 => ?_⟩
  · refine accept_v (R := fun k => P k + v * R k) ha (by rw [f1.1 _ _ (fun z => z)]; exact h0) (fun k hk => p1 k (by omega)) (fun k hk => ?_) (fun q s3 h3 f3 => h1 _ (Or.inr ⟨rfl, q⟩) s3 h3 q (prf_py (gfr_mono f1 (fun c f e => e.elim) (fun c e => Or.inr e)) f3)) (fun q s3 b3 => h2 (Or.inl ⟨rfl, q⟩) s3 b3)
    have q1 := fP k hk
    have q2 := fR k hk
    rcases hv with q | q <;> subst q <;> omega
  · subst e2
    refine ⟨i + 1, w32s (by omega), by omega, gfr_pa f1 rfl, fun k hk => ?_⟩
    rw [cpa_row]
    by_cases ck : k = i
    · subst ck
      rw [if_pos (by omega)]
      have q1 := fP k (by omega)
      have q2 := fR k (by omega)
      have y1 : cga s1 (a + 1) (k : Int) = P k := by show s1.2 _ ((k : Nat) : Int).toNat = _; rw [Int.toNat_natCast, f1.2 _ (by omega)]; exact slp_r hP (by omega)
      have y2 : cga s1 (b + 1) (k : Int) = R k := by show s1.2 _ ((k : Nat) : Int).toNat = _; rw [Int.toNat_natCast, f1.2 _ (by omega)]; exact slp_r hR (by omega)
      rw [y1, y2]
      rcases hv with q | q <;> subst q
      · rw [w64_id (x := 1 * R k) (by omega) (by omega), w64_id (by omega) (by omega)]
      · rw [w64_id (x := -1 * R k) (by omega) (by omega), w64_id (by omega) (by omega)]
    · rw [if_neg (by omega)]
      exact p1 k (by omega)
theorem addTo_b {s : im_S} {a b : Nat} {v w : Int} {e : Int × Int} {Q : im_S → Prop} (h : bdS s e) (hQ : ∀ s', bdS s' e → Q s') : C_addTo7 a b v w s Q := by
  refine ⟨fun q => bdS q.2 e, h, ?_⟩
  rintro ⟨x, s1⟩ h1
  dsimp only at h1 ⊢
  exact ⟨fun _ => accept_b h1 hQ, fun _ _ _ _ s2 e2 => by subst e2; exact h1⟩
theorem negate_v {s : im_S} {a : Nat} {P : po} {Q : im_S → Prop} (ha : 5 ≤ a ∧ a ≤ 57) (hP : slp s a P) (fP : fin9 P) (hQ : ∀ s', slp s' a (poN P) → fin9 (poN P) → gfr (fun _ _ => False) (fun c => c = a + 1) s s' → Q s') : C_negate7 a s Q := by
  refine ⟨fun q => ∃ i : Nat, q.1 = (i : Int) ∧ i ≤ 9 ∧ gfr (fun _ _ => False) (fun c => c = a + 1) s q.2 ∧ ∀ k : Nat, k < 9 → q.2.2 (a + 1) k = if k < i then - P k else P k, ⟨0, rfl, by omega, gfr_refl _ _ _, fun k hk => by rw [if_neg (by omega)]; exact slp_r hP hk⟩, ?_⟩
  rintro ⟨x, s1⟩ ⟨i, e, i9, f1, p1⟩
  dsimp only at e f1 p1 ⊢
  subst e
  refine ⟨fun c => hQ s1 ⟨fun k hk => ?_, ?_⟩ (fun k hk => ?_) f1, fun c _ _ s2 e2 => ?_⟩
  · rw [p1 k hk, if_pos (by omega), pmk_gt, if_pos hk]; rfl
  · rw [f1.1 _ _ (fun z => z)]
    obtain ⟨_, d1, d2, d3, d4⟩ := hP
    refine ⟨d1, d2, fun k hk => ?_, fun z => ?_⟩
    · have := d3 k hk
      rw [pmk_gt] at this ⊢
      split
      · rename_i q
        rw [if_pos q] at this
        show - P k = 0
        omega
      · rfl
    · have := d4 z
      rw [pmk_gt] at this ⊢
      split
      · rename_i q
        rw [if_pos q] at this
        show - P _ ≠ 0
        omega
      · rename_i q
        rw [if_neg q] at this
        exact this
  · have := fP k hk
    show -1000000000 ≤ - P k ∧ - P k ≤ 1000000000
    omega
  · subst e2
    refine ⟨i + 1, w32s (by omega), by omega, gfr_pa f1 rfl, fun k hk => ?_⟩
    rw [cpa_row]
    by_cases ck : k = i
    · subst ck
      have := fP k hk
      rw [if_pos (by omega), if_pos (by omega)]
      rw [show cga s1 (a + 1) (k : Int) = P k by show s1.2 _ ((k : Nat) : Int).toNat = _; rw [Int.toNat_natCast, p1 k hk, if_neg (by omega)]]
      rw [w64_id (by omega) (by omega)]
    · rw [if_neg (by omega), p1 k hk]
      by_cases q : k < i
      · rw [if_pos q, if_pos (by omega)]
      · rw [if_neg q, if_neg (by omega)]
theorem negate_b {s : im_S} {a : Nat} {e : Int × Int} {Q : im_S → Prop} (h : bdS s e) (hQ : ∀ s', bdS s' e → Q s') : C_negate7 a s Q := by
  refine ⟨fun q => bdS q.2 e, h, ?_⟩
  rintro ⟨x, s1⟩ h1
  dsimp only at h1 ⊢
  exact ⟨fun _ => hQ _ h1, fun _ _ _ s2 e2 => by subst e2; exact h1⟩
