/-! BETWEEN TWO SIGNS THERE IS A TURN -/
theorem ivt {F : List Int} (sq : sqf F) {x y : Rat} (xy : x < y) (hn : pev F x * pev F y < 0) : ∃ c : Rat → Int, cut c ∧ rtc F c ∧ c x = 1 ∧ c y = -1 := by
  have nx : pev F x ≠ 0 := fun z => by rw [z, Rat.zero_mul] at hn; exact absurd hn (by decide)
  have ny : pev F y ≠ 0 := fun z => by rw [z, Rat.mul_zero] at hn; exact absurd hn (by decide)
  obtain ⟨t, ht, hx, _⟩ := sg_ex nx
  have hy : rsg (pev F y) = -t := by
    have p := rsg_neg hn
    rw [rsg_m, hx] at p
    rcases rsg_3 (pev F y) with w | w | w <;> rcases ht with q | q <;> subst q <;> rw [w] at p ⊢ <;> first | rfl | (exfalso; revert p; decide)
  obtain ⟨A, hA⟩ : ∃ A : Rat → Prop, ∀ z, A z ↔ ∀ w, x ≤ w → w ≤ z → rsg (pev F w) = t := ⟨_, fun _ => Iff.rfl⟩
  have dn : ∀ u v, u ≤ v → A v → A u := fun u v h a => (hA u).2 (fun w w1 w2 => (hA v).1 a w w1 (Rat.le_trans w2 h))
  have nAy : ¬ A y := fun a => by
    have := (hA y).1 a y (Rat.le_of_lt xy) Rat.le_refl
    omega
  have mid : ∀ u v : Rat, u < v → ∃ w, u < w ∧ w < v := fun u v h => ⟨(u + v) / 2, by grind, by grind⟩
  have dec1 : ∀ z, ∃ k : Int, ((∃ z', z < z' ∧ A z') → k = 1) ∧ (¬ (∃ z', z < z' ∧ A z') → (∃ z', z' < z ∧ ¬ A z') → k = -1) ∧ (¬ (∃ z', z < z' ∧ A z') → ¬ (∃ z', z' < z ∧ ¬ A z') → k = 0) := fun z => by
    by_cases c1 : ∃ z', z < z' ∧ A z'
    · exact ⟨1, fun _ => rfl, fun n => absurd c1 n, fun n => absurd c1 n⟩
    · by_cases c2 : ∃ z', z' < z ∧ ¬ A z'
      · exact ⟨-1, fun h => absurd h c1, fun _ _ => rfl, fun _ n => absurd c2 n⟩
      · exact ⟨0, fun h => absurd h c1, fun _ h => absurd h c2, fun _ _ => rfl⟩
  obtain ⟨c, hc⟩ := Classical.axiomOfChoice dec1
  have one : ∀ z, (∃ z', z < z' ∧ A z') → c z = 1 := fun z h => (hc z).1 h
  have one' : ∀ z, c z = 1 → ∃ z', z < z' ∧ A z' := fun z h => Classical.byContradiction fun n => by
    by_cases c2 : ∃ z', z' < z ∧ ¬ A z'
    · have := (hc z).2.1 n c2; omega
    · have := (hc z).2.2 n c2; omega
  have neg : ∀ z, (∃ z', z' < z ∧ ¬ A z') → ¬ (∃ z', z < z' ∧ A z') → c z = -1 := fun z h n => (hc z).2.1 n h
  have neg' : ∀ z, c z = -1 → (∃ z', z' < z ∧ ¬ A z') ∧ ¬ (∃ z', z < z' ∧ A z') := fun z h => by
    by_cases c1 : ∃ z', z < z' ∧ A z'
    · have := one z c1; omega
    · refine ⟨Classical.byContradiction fun n => ?_, c1⟩
      have := (hc z).2.2 c1 n
      omega
  have cx : c x = 1 := by
    obtain ⟨d, d0, hd⟩ := contB nx
    refine one x ⟨x + d, by grind, (hA _).2 (fun w w1 w2 => ?_)⟩
    rw [hd w (by grind) (by grind)]
    exact hx
  have cy : c y = -1 := by
    obtain ⟨d, d0, hd⟩ := contB ny
    refine neg y ?_ (fun ⟨z', z1, z2⟩ => nAy (dn y z' (Rat.le_of_lt z1) z2))
    obtain ⟨e, e1, e2, e3⟩ : ∃ e : Rat, x ≤ e ∧ e < y ∧ y - e ≤ d := by
      by_cases q : x ≤ y - d
      · exact ⟨y - d, q, by grind, by grind⟩
      · exact ⟨x, Rat.le_refl, xy, by grind⟩
    refine ⟨e, e2, fun a => ?_⟩
    have s1 := (hA e).1 a e e1 Rat.le_refl
    have s2 := hd e (by grind) (by grind)
    omega
  have hcut : cut c := by
    refine ⟨fun z => ?_, fun u v uv hv => ?_, ⟨⟨x, cx⟩, y, cy⟩, fun u hu => ?_, fun u hu => ?_⟩
    · by_cases c1 : ∃ z', z < z' ∧ A z'
      · have := one z c1; omega
      · by_cases c2 : ∃ z', z' < z ∧ ¬ A z'
        · have := neg z c2 c1; omega
        · have := (hc z).2.2 c1 c2; omega
    · by_cases c1 : ∃ z', v < z' ∧ A z'
      · obtain ⟨z', z1, z2⟩ := c1
        exact one u ⟨z', by grind, z2⟩
      · have all : ∀ z', z' < v → A z' := fun z' h => Classical.byContradiction fun n => hv (neg v ⟨z', h, n⟩ c1)
        obtain ⟨w, w1, w2⟩ := mid u v uv
        exact one u ⟨w, w1, all w w2⟩
    · obtain ⟨z', z1, z2⟩ := one' u hu
      obtain ⟨w, w1, w2⟩ := mid u z' z1
      exact ⟨w, w1, one w ⟨z', w2, z2⟩⟩
    · obtain ⟨⟨z', z1, z2⟩, _⟩ := neg' u hu
      obtain ⟨w, w1, w2⟩ := mid z' u z1
      exact ⟨w, w2, neg w ⟨z', w1, z2⟩ (fun ⟨z'', y1, y2⟩ => z2 (dn z' z'' (by grind) y2))⟩
  have lft : gml F c t := ⟨x, cx, fun u u1 u2 => by
    obtain ⟨z', z1, z2⟩ := one' u u2
    exact (hA z').1 z2 u u1 (Rat.le_of_lt z1)⟩
  have nzF : nzp F := Classical.byContradiction fun z => by
    have z' : ∀ k, pgt F k = 0 := fun k => Classical.byContradiction fun w => z ⟨k, w⟩
    exact nx (pev_eq (R := []) z' x)
  refine ⟨c, hcut, ?_, cx, cy⟩
  obtain ⟨t', ht', v0, hv0, hv⟩ := (germ hcut F.length F (pdb_len F) nzF).2
  by_cases e : t' = -t
  · rw [e] at hv
    exact ⟨t, ht, lft, v0, hv0, hv⟩
  · exfalso
    have et : t' = t := by omega
    subst et
    have zero : ∀ w, c w = 0 → rsg (pev F w) = t' := fun w hw => by
      by_cases z : pev F w = 0
      · exfalso
        have r := rtc_qs sq z
        have ec : c = qct w := funext (cut_q hcut hw)
        rw [← ec] at r
        obtain ⟨t2, _, l2, r2⟩ := r
        have e1 := gml_u hcut lft l2
        have e2 := gmr_u hcut ⟨v0, hv0, hv⟩ r2
        omega
      · obtain ⟨d, d0, hd⟩ := contB z
        obtain ⟨u, v, b1, b2, b3, b4, b5⟩ := cut_near2 hcut d0 cx hv0
        have ux : u < w := cnt_le hcut b1 (by rw [hw]; decide)
        have xv9 : w < v := cnt_ge hcut (by rw [hw]; decide) b2
        have s1 := hd v (by grind) (by grind)
        have s2 := hv v b4 b2
        omega
    obtain ⟨⟨z', z1, z2⟩, _⟩ := neg' v0 hv0
    refine z2 ((hA z').2 (fun w w1 w2 => ?_))
    rcases hcut.1 w with q | q | q
    · exact hv w (by grind) q
    · exact zero w q
    · obtain ⟨u0, u1, u2⟩ := lft
      obtain ⟨z'', y1, y2⟩ := one' w q
      exact (hA z'').1 y2 w w1 (Rat.le_of_lt y1)
theorem same_sg {F : List Int} (sq : sqf F) {x y : Rat} (xy : x < y) (nx : pev F x ≠ 0) (ny : pev F y ≠ 0) (no : ∀ c : Rat → Int, cut c → rtc F c → c x = 1 → c y = -1 → False) : rsg (pev F x) = rsg (pev F y) := by
  refine Classical.byContradiction fun n => ?_
  have hn : pev F x * pev F y < 0 := by
    refine rsg_n ?_
    rw [rsg_m]
    obtain ⟨t, ht, hx, _⟩ := sg_ex nx
    obtain ⟨t', ht', hy, _⟩ := sg_ex ny
    rw [hx, hy] at n ⊢
    rcases ht with q | q <;> rcases ht' with q' | q' <;> subst q <;> subst q' <;> first | rfl | exact absurd rfl n
  obtain ⟨c, h1, h2, h3, h4⟩ := ivt sq xy hn
  exact no c h1 h2 h3 h4
