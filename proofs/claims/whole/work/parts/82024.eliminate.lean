theorem cpa_at9 (s : im_S) (a : Nat) (i x : Int) (k : Nat) : (cpa s a i x).2 a k = if k = i.toNat then x else s.2 a k := by
  show im_up s.2 a i.toNat x a k = _
  unfold im_up
  by_cases h : k = i.toNat
  · rw [if_pos ⟨rfl, h⟩, if_pos h]
  · rw [if_neg (fun z => h z.2), if_neg h]
/-- eliminate of the class, by value: I is kept by each round -/
theorem eliminate_v {a b : Nat} {top low p : Int} {s : im_S} {Q : im_S → Prop} {I : (Nat → Int) → Prop} (hab : a ≠ b) (hp : prz p) (hA : inr9 p (s.2 a)) (hB : inr9 p (s.2 b)) (ht : top ≤ 8) (hl : 0 ≤ low ∧ low ≤ 8) (ht2 : low - 1 ≤ top) (hz : ∀ k : Nat, k < 9 → top < (k : Int) → s.2 a k = 0) (hb : ∀ k : Nat, k < 9 → low < (k : Int) → s.2 b k = 0) (hI : I (s.2 a)) (st : ∀ (f f' : Nat → Int) (h : Int) (sh : Nat), I f → (∀ k, 9 ≤ k + sh → k < 9 → s.2 b k = 0) → (∀ k, k < 9 → p ∣ f' k - (s.2 b low.toNat * f k - (if k < sh then 0 else h * s.2 b (k - sh)))) → I f') (hQ : ∀ s', gfr (fun _ _ => False) (fun c => c = a) s s' → inr9 p (s'.2 a) → (∀ k : Nat, k < 9 → low ≤ (k : Int) → s'.2 a k = 0) → I (s'.2 a) → Q s') : C_eliminate2 a top b low p s Q := by
  have p1 := hp.1
  have p2 := hp.2
  intro _
  obtain ⟨l, el⟩ : ∃ l, l = s.2 b low.toNat := ⟨_, rfl⟩
  have el' : cga s b low = l := el.symm
  rw [el']
  rw [← el] at st
  have lb := hB low.toNat (by omega)
  rw [← el] at lb
  refine ⟨fun q => low - 1 ≤ q.1 ∧ q.1 ≤ top ∧ gfr (fun _ _ => False) (fun c => c = a) s q.2 ∧ inr9 p (q.2.2 a) ∧ (∀ k : Nat, k < 9 → q.1 < (k : Int) → q.2.2 a k = 0) ∧ I (q.2.2 a), ⟨ht2, Int.le_refl _, gfr_refl _ _ _, hA, hz, hI⟩, ?_⟩
  rintro ⟨i, s1⟩ ⟨i1, i2, g1, r1, z1, I1⟩
  dsimp only at i1 i2 g1 r1 z1 I1 ⊢
  have eb : ∀ s', gfr (fun _ _ => False) (fun c => c = a) s s' → s'.2 b = s.2 b := fun s' g => g.2 b (fun z => hab z.symm)
  refine ⟨fun c => hQ s1 g1 r1 (fun k k9 hk => z1 k k9 (by omega)) I1, fun c _ => ?_⟩
  obtain ⟨f, ef⟩ : ∃ f, f = s1.2 a := ⟨_, rfl⟩
  obtain ⟨n, en⟩ : ∃ n : Nat, i = (n : Int) := ⟨i.toNat, by omega⟩
  subst en
  obtain ⟨h, eh⟩ : ∃ h, h = f n := ⟨_, rfl⟩
  have eh' : cga s1 a (n : Int) = h := by rw [eh, ef]; rfl
  obtain ⟨sh, esh⟩ : ∃ sh : Nat, (n : Int) - low = (sh : Int) := ⟨((n : Int) - low).toNat, by omega⟩
  rw [eh', esh, w32_id (by omega) (by omega)]
  have hb0 := r1 n (by omega)
  rw [← ef, ← eh] at hb0
  rw [← ef] at r1 z1 I1
  have hg : ∀ k, 9 ≤ k + sh → k < 9 → s.2 b k = 0 := fun k h1 h2 => hb k h2 (by omega)
  have fv : ∀ k : Nat, k < 9 → -4611686014132420609 ≤ l * f k - (if k < sh then 0 else h * s.2 b (k - sh)) ∧ l * f k - (if k < sh then 0 else h * s.2 b (k - sh)) ≤ 4611686014132420609 ∧ 0 ≤ l * f k ∧ l * f k ≤ 4611686014132420609 ∧ (¬ k < sh → 0 ≤ h * s.2 b (k - sh) ∧ h * s.2 b (k - sh) ≤ 4611686014132420609) := fun k k9 => by
    have m : ∀ x y : Int, 0 ≤ x → x < p → 0 ≤ y → y < p → 0 ≤ x * y ∧ x * y ≤ 4611686014132420609 := fun x y x0 x1 y0 y1 => by
      have m1 := Int.mul_nonneg x0 y0
      have m2 : x * y ≤ 2147483647 * 2147483647 := Int.le_trans (Int.mul_le_mul_of_nonneg_right (show x ≤ 2147483647 by omega) y0) (Int.mul_le_mul_of_nonneg_left (show y ≤ 2147483647 by omega) (by decide))
      omega
    have fk := r1 k k9
    have w1 := m l (f k) lb.1 lb.2 fk.1 fk.2
    by_cases q : k < sh
    · rw [if_pos q]
      exact ⟨by omega, by omega, w1.1, w1.2, fun z => absurd q z⟩
    · rw [if_neg q]
      have gk := hB (k - sh) (by omega)
      have w2 := m h (s.2 b (k - sh)) hb0.1 hb0.2 gk.1 gk.2
      exact ⟨by omega, by omega, w1.1, w1.2, fun _ => w2⟩
  by_cases h0 : h = 0
  · -- nothing to do
    refine ⟨fun q => q.2 = s1, rfl, ?_⟩
    rintro ⟨j, s2⟩ e
    dsimp only at e ⊢
    subst e
    have fin : C_eliminate2_91 (fun q => low - 1 ≤ q.1 ∧ q.1 ≤ top ∧ gfr (fun _ _ => False) (fun c => c = a) s q.2 ∧ inr9 p (q.2.2 a) ∧ (∀ k : Nat, k < 9 → q.1 < (k : Int) → q.2.2 a k = 0) ∧ I (q.2.2 a)) a b low p l (n : Int) s2 Q := by
      show low - 1 ≤ w32 ((n : Int) + -1) ∧ _
      rw [w32_id (by omega) (by omega)]
      refine ⟨by omega, by dsimp only; omega, g1, by rw [← ef]; exact r1, fun k k9 hk => ?_, by rw [← ef]; exact I1⟩
      dsimp only at hk
      show s2.2 a k = 0
      rw [← ef]
      by_cases q : k = n
      · rw [q, ← eh]; exact h0
      · exact z1 k k9 (by omega)
    exact ⟨fun _ => fin, fun _ => ⟨fun _ => fin, fun z => absurd h0 z⟩⟩
  · refine ⟨fun q => ∃ j : Nat, q.1 = (j : Int) ∧ j ≤ n + 1 ∧ gfr (fun _ _ => False) (fun c => c = a) s q.2 ∧ (∀ k : Nat, k < 9 → q.2.2 a k = if k < j then (l * f k - (if k < sh then 0 else h * s.2 b (k - sh))) % p else f k), ⟨0, rfl, by omega, g1, fun k k9 => by rw [if_neg (by omega), ef]⟩, ?_⟩
    rintro ⟨x, s2⟩ ⟨j, ej, jn, g2, r2⟩
    dsimp only at ej g2 r2 ⊢
    subst ej
    refine ⟨fun c => ?_, fun c => ⟨fun z => absurd z h0, fun _ _ v ev => ?_⟩⟩
    · have jj : j = n + 1 := by omega
      subst jj
      show low - 1 ≤ w32 ((n : Int) + -1) ∧ _
      rw [w32_id (by omega) (by omega)]
      have rng : ∀ y : Int, 0 ≤ y % p ∧ y % p < p := fun y => ⟨Int.emod_nonneg _ (by omega), Int.emod_lt_of_pos _ (by omega)⟩
      have dv : ∀ k, k < 9 → p ∣ s2.2 a k - (l * f k - (if k < sh then 0 else h * s.2 b (k - sh))) := fun k k9 => by
        rw [r2 k k9]
        by_cases q : k < n + 1
        · rw [if_pos q]
          exact ⟨-((l * f k - (if k < sh then 0 else h * s.2 b (k - sh))) / p), by have := Int.emod_add_mul_ediv (l * f k - (if k < sh then 0 else h * s.2 b (k - sh))) p; grind⟩
        · rw [if_neg q, if_neg (by omega), z1 k k9 (by omega), hb (k - sh) (by omega) (by omega)]
          exact ⟨0, by grind⟩
      refine ⟨by omega, by dsimp only; omega, g2, fun k k9 => ?_, fun k k9 hk => ?_, st f (s2.2 a) h sh I1 hg dv⟩
      · show 0 ≤ s2.2 a k ∧ s2.2 a k < p
        rw [r2 k k9]
        by_cases q : k < n + 1
        · rw [if_pos q]; exact rng _
        · rw [if_neg q]; exact r1 k k9
      · dsimp only at hk
        show s2.2 a k = 0
        rw [r2 k k9]
        by_cases q : k = n
        · subst q
          rw [if_pos (by omega), if_neg (by omega), show k - sh = low.toNat by omega, ← el, ← eh]
          rw [show l * h - h * l = 0 by grind]
          exact Int.zero_emod _
        · rw [if_neg (by omega)]
          exact z1 k k9 (by omega)
    · have j9 : j < 9 := by omega
      have fj := fv j j9
      have aj : cga s2 a (j : Int) = f j := by
        show s2.2 a j = _
        rw [r2 j j9, if_neg (by omega)]
      have v' : v = l * f j - (if j < sh then 0 else h * s.2 b (j - sh)) := by
        rw [ev, aj]
        by_cases q : j < sh
        · rw [if_pos (by omega), if_pos q, w64_id (by have := fj.2.2.1; grind) (by have := fj.2.2.2.1; grind)]
          grind
        · rw [if_neg (by omega), if_neg q, w32_id (by omega) (by omega)]
          have f5 := fj.2.2.2.2 q
          have bj : cga s2 b ((j : Int) - (sh : Int)) = s.2 b (j - sh) := by
            show s2.2 b _ = _
            rw [eb s2 g2, show ((j : Int) - (sh : Int)).toNat = j - sh by omega]
          have c1 : f j * l = l * f j := Int.mul_comm _ _
          have f3 := fj.2.2.1
          have f4 := fj.2.2.2.1
          rw [bj, c1, w64_id (x := l * f j) (by omega) (by omega), w64_id (x := h * s.2 b (j - sh)) (by omega) (by omega)]
          exact w64_id (by omega) (by omega)
      have v1 := fj.1
      have v2 := fj.2.1
      rw [← v'] at v1 v2
      refine floorMod_v ⟨by omega, by omega⟩ (by omega) (by omega) ⟨by omega, by omega⟩ (fun _ s3 e3 => ?_)
      refine ⟨j + 1, w32s (by omega), by omega, by subst e3; exact gfr_pa g2 rfl, fun k k9 => ?_⟩
      show s3.2 a k = _
      rw [e3, cpa_at9, show ((j : Nat) : Int).toNat = j by omega]
      by_cases q : k = j
      · subst q
        rw [if_pos rfl, if_pos (show k < k + 1 by omega), v']
      · rw [if_neg q, r2 k k9]
        by_cases w : k < j
        · rw [if_pos w, if_pos (show k < j + 1 by omega)]
        · rw [if_neg w, if_neg (show ¬ k < j + 1 by omega)]
