theorem cut_near2 {c : Rat → Int} (h : cut c) {d u0 v0 : Rat} (hd : 0 < d) (hu : c u0 = 1) (hv : c v0 = -1) : ∃ u v, c u = 1 ∧ c v = -1 ∧ u0 ≤ u ∧ v ≤ v0 ∧ v - u ≤ d := by
  obtain ⟨u, v, a, b, e⟩ := cut_near h hd
  have key : ∃ u', c u' = 1 ∧ u0 ≤ u' ∧ u ≤ u' := by
    by_cases q : u0 ≤ u
    · exact ⟨u, a, q, Rat.le_refl⟩
    · exact ⟨u0, hu, Rat.le_refl, Rat.le_of_lt (Rat.not_le.1 q)⟩
  have key2 : ∃ v', c v' = -1 ∧ v' ≤ v0 ∧ v' ≤ v := by
    by_cases q : v ≤ v0
    · exact ⟨v, b, q, Rat.le_refl⟩
    · exact ⟨v0, hv, Rat.le_refl, Rat.le_of_lt (Rat.not_le.1 q)⟩
  obtain ⟨u', a1, a2, a3⟩ := key
  obtain ⟨v', b1, b2, b3⟩ := key2
  exact ⟨u', v', a1, b1, a2, b2, by grind⟩
/-- F turns its sign at c -/
def rtc (F : List Int) (c : Rat → Int) : Prop := ∃ t, (t = 1 ∨ t = -1) ∧ gml F c t ∧ gmr F c (-t)
theorem cut_mx {c : Rat → Int} {u u' : Rat} (hu : c u = 1) (hu' : c u' = 1) : ∃ w, c w = 1 ∧ u ≤ w ∧ u' ≤ w := by
  by_cases q : u ≤ u'
  · exact ⟨u', hu', q, Rat.le_refl⟩
  · exact ⟨u, hu, Rat.le_refl, Rat.le_of_lt (Rat.not_le.1 q)⟩
theorem cut_mn {c : Rat → Int} {u u' : Rat} (hu : c u = -1) (hu' : c u' = -1) : ∃ w, c w = -1 ∧ w ≤ u ∧ w ≤ u' := by
  by_cases q : u ≤ u'
  · exact ⟨u, hu, Rat.le_refl, q⟩
  · exact ⟨u', hu', Rat.le_of_lt (Rat.not_le.1 q), Rat.le_refl⟩
theorem rtc_neg {F : List Int} {c : Rat → Int} (h : rtc F c) : ∃ u0 v0, c u0 = 1 ∧ c v0 = -1 ∧ ∀ u v, u0 ≤ u → c u = 1 → v ≤ v0 → c v = -1 → pev F u * pev F v < 0 := by
  obtain ⟨t, t1, ⟨u0, a1, a2⟩, v0, b1, b2⟩ := h
  refine ⟨u0, v0, a1, b1, fun u v h1 h2 h3 h4 => ?_⟩
  have x := a2 u h1 h2
  have y := b2 v h3 h4
  refine rsg_n ?_
  rw [rsg_m, x, y]
  rcases t1 with t1 | t1 <;> rw [t1] <;> rfl
/-- polynomials without common divisor don't turn at the same number -/
theorem rtc_cop {A B : List Int} {c : Rat → Int} (h : cut c) (hc : cop A B) (ha : rtc A c) (hb : rtc B c) : False := by
  obtain ⟨u1, v1, a1, a2, a3⟩ := rtc_neg ha
  obtain ⟨u2, v2, b1, b2, b3⟩ := rtc_neg hb
  obtain ⟨u0, w1, w2, w3⟩ := cut_mx a1 b1
  obtain ⟨v0, x1, x2, x3⟩ := cut_mn a2 b2
  obtain ⟨r1, r2, X0⟩ := sq_rb u0 v0
  obtain ⟨d, d0, hd⟩ := nar1 (u0 * u0 + v0 * v0 + 1) X0 hc
  obtain ⟨u, v, y1, y2, y3, y4, y5⟩ := cut_near2 h d0 w1 x1
  have uv := cut_lt h y1 y2
  refine hd u v ⟨⟨by have := r1.1; grind, by have := r2.2; grind⟩, ⟨by have := r1.1; grind, by have := r2.2; grind⟩, uv, y5⟩ ⟨?_, ?_⟩
  · exact Rat.le_of_lt (a3 u v (Rat.le_trans w2 y3) y1 (Rat.le_trans y4 x2) y2)
  · exact Rat.le_of_lt (b3 u v (Rat.le_trans w3 y3) y1 (Rat.le_trans y4 x3) y2)
/-- a product turns where one of its factors does, and the other does not -/
theorem rtc_mul {F G H : List Int} {c : Rat → Int} (h : cut c) (hF : nzp F) (hG : nzp G) (e : ∀ z : Rat, pev H z = pev F z * pev G z) : rtc H c ↔ ((rtc F c ∧ ¬ rtc G c) ∨ (¬ rtc F c ∧ rtc G c)) := by
  obtain ⟨⟨a, a1, a2⟩, b, b1, b2⟩ := germ h F.length F (pdb_len F) hF
  obtain ⟨⟨a', a1', a2'⟩, b', b1', b2'⟩ := germ h G.length G (pdb_len G) hG
  have m1 := gml_mul h e a2 a2'
  have m2 := gmr_mul h e b2 b2'
  have iF : rtc F c ↔ b = -a := ⟨fun ⟨t, _, t2, t3⟩ => by rw [gml_u h a2 t2, gmr_u h b2 t3], fun z => ⟨a, a1, a2, by rw [← z]; exact b2⟩⟩
  have iG : rtc G c ↔ b' = -a' := ⟨fun ⟨t, _, t2, t3⟩ => by rw [gml_u h a2' t2, gmr_u h b2' t3], fun z => ⟨a', a1', a2', by rw [← z]; exact b2'⟩⟩
  have iH : rtc H c ↔ b * b' = -(a * a') := ⟨fun ⟨t, _, t2, t3⟩ => by rw [gml_u h m1 t2, gmr_u h m2 t3], fun z => ⟨a * a', by rcases a1 with q | q <;> rcases a1' with q' | q' <;> rw [q, q'] <;> decide, m1, by rw [← z]; exact m2⟩⟩
  rw [iF, iG, iH]
  rcases a1 with q | q <;> rcases a1' with q' | q' <;> rcases b1 with w | w <;> rcases b1' with w' | w' <;> subst q <;> subst q' <;> subst w <;> subst w' <;> decide
/-- the number x0 itself -/
def qct (x0 : Rat) : Rat → Int := fun x => rsg (x0 - x)
theorem qct_cut (x0 : Rat) : cut (qct x0) := by
  refine ⟨fun x => ?_, fun x y h1 h2 => ?_, ⟨⟨x0 - 1, rsg_pos (by grind)⟩, x0 + 1, rsg_neg (by grind)⟩, fun x h => ?_, fun x h => ?_⟩
  · rcases rsg_c (x0 - x) with ⟨_, b⟩ | ⟨_, b⟩ | ⟨_, b⟩ <;> unfold qct <;> omega
  · refine rsg_pos ?_
    refine Rat.not_le.1 fun z => h2 (rsg_neg (by grind))
  · have := rsg_p h
    exact ⟨(x + x0) / 2, by grind, rsg_pos (by grind)⟩
  · have := rsg_n h
    exact ⟨(x + x0) / 2, by grind, rsg_neg (by grind)⟩
theorem cut_q {c : Rat → Int} (h : cut c) {x0 : Rat} (h0 : c x0 = 0) (x : Rat) : c x = qct x0 x := by
  unfold qct
  rcases rsg_c (x0 - x) with ⟨a, b⟩ | ⟨a, b⟩ | ⟨a, b⟩
  · rw [b, show x = x0 by grind, h0]
  · rw [b]; exact h.2.1 x x0 (by grind) (by omega)
  · rw [b]
    refine Classical.byContradiction fun n => ?_
    have := h.2.1 x0 x (by grind) n
    omega
/-- near a point that is no root the sign is that of the point -/
theorem contB {F : List Int} {a : Rat} (hf : pev F a ≠ 0) : ∃ d : Rat, 0 < d ∧ ∀ x : Rat, -d ≤ x - a → x - a ≤ d → rsg (pev F x) = rsg (pev F a) := by
  obtain ⟨s, s0, hs⟩ : ∃ s : Rat, 0 < s ∧ (pev F a = s ∨ pev F a = -s) := by
    rcases rsg_c (pev F a) with ⟨w, _⟩ | ⟨w, _⟩ | ⟨w, _⟩
    · exact absurd w hf
    · exact ⟨_, w, Or.inl rfl⟩
    · exact ⟨-pev F a, by grind, Or.inr (by grind)⟩
  obtain ⟨ra, rb', X0⟩ := sq_rb (a - 1) (a + 1)
  obtain ⟨X, hX⟩ : ∃ X, X = (a - 1) * (a - 1) + (a + 1) * (a + 1) + 1 := ⟨_, rfl⟩
  rw [← hX] at ra rb' X0
  have i0 : 0 < s⁻¹ := Rat.inv_pos.2 s0
  have i1 : s * s⁻¹ = 1 := Rat.mul_inv_cancel _ (by grind)
  have L0 := b1_nn X0 F
  obtain ⟨d, d0, hd⟩ := narrow (T := b1 F X * s⁻¹) (Rat.mul_nonneg L0 (by grind))
  obtain ⟨d1, q0, q1, q2⟩ : ∃ d1 : Rat, 0 < d1 ∧ d1 ≤ d ∧ d1 ≤ 1 := by
    by_cases q : d ≤ 1
    · exact ⟨d, d0, Rat.le_refl, q⟩
    · exact ⟨1, by decide, Rat.le_of_lt (Rat.not_le.1 q), Rat.le_refl⟩
  refine ⟨d1, q0, fun x h1 h2 => ?_⟩
  have rx : rb x X := ⟨by have := ra.1; grind, by have := rb'.2; grind⟩
  have ra' : rb a X := ⟨by have := ra.1; grind, by have := rb'.2; grind⟩
  obtain ⟨e, e1, e2⟩ := pev_t1 rx ra' F
  obtain ⟨L, hL⟩ : ∃ L, L = b1 F X := ⟨_, rfl⟩
  rw [← hL] at e1 L0 hd
  have w := hd d1 (Rat.le_of_lt q0) q1
  have w2 : L * d1 < s := by
    have m := Rat.mul_lt_mul_of_pos_left w s0
    have : s * (L * s⁻¹ * d1) = L * d1 * (s * s⁻¹) := by grind
    rw [this, i1] at m
    grind
  have rd : rb ((x - a) * e) (d1 * L) := rb_mul ⟨h1, h2⟩ e1
  have w3 : d1 * L < s := by grind
  rw [← e2] at rd
  obtain ⟨r1, r2⟩ := rd
  rcases hs with hs | hs
  · rw [rsg_pos (x := pev F a) (by grind), rsg_pos (by grind)]
  · rw [rsg_neg (x := pev F a) (by grind), rsg_neg (by grind)]
/-- a number that is a fraction and no root: no turn -/
theorem rtc_q0 {F : List Int} {c : Rat → Int} (h : cut c) {x0 : Rat} (h0 : c x0 = 0) (hr : rtc F c) : pev F x0 = 0 := by
  refine Classical.byContradiction fun n => ?_
  obtain ⟨d, d0, hd⟩ := contB n
  obtain ⟨u0, v0, a1, a2, a3⟩ := rtc_neg hr
  obtain ⟨u, v, b1, b2, b3, b4, b5⟩ := cut_near2 h d0 a1 a2
  have ux : u < x0 := Rat.not_le.1 fun z => by
    rcases Rat.le_iff_lt_or_eq.1 z with z | z
    · have := h.2.1 x0 u z (by omega); omega
    · rw [← z] at b1; omega
  have xv : x0 < v := Rat.not_le.1 fun z => by
    rcases Rat.le_iff_lt_or_eq.1 z with z | z
    · have := h.2.1 v x0 z (by omega); omega
    · rw [z] at b2; omega
  have e1 := hd u (by grind) (by grind)
  have e2 := hd v (by grind) (by grind)
  have neg := rsg_neg (a3 u v b3 b1 b4 b2)
  rw [rsg_m, e1, e2] at neg
  rcases rsg_c (pev F x0) with ⟨w, _⟩ | ⟨_, w⟩ | ⟨_, w⟩
  · exact n w
  · rw [w] at neg; omega
  · rw [w] at neg; omega
/-- a fraction that is a root of a polynomial without double roots: a turn -/
theorem rtc_qs {F : List Int} (hs : sqf F) {x0 : Rat} (h0 : pev F x0 = 0) : rtc F (qct x0) := by
  obtain ⟨k, u, v, k0, e⟩ := hs
  have dn : pev (pdl F) x0 ≠ 0 := fun z => by
    have := e x0
    rw [h0, z] at this
    have : (k : Rat) = 0 := by grind
    exact k0 (Rat.intCast_inj.1 (this.trans rat_i0.symm))
  -- F x = (x - x0) (F' x0 + (x - x0) w)
  obtain ⟨d, d0, hd⟩ := contB (F := pdl F) dn
  have mono : ∀ x y : Rat, -d ≤ x - x0 → y - x0 ≤ d → x < y → rsg (pev F y - pev F x) = rsg (pev (pdl F) x0) := fun x y h1 h2 xy => by
    rcases rsg_c (pev (pdl F) x0) with ⟨w, _⟩ | ⟨w, w1⟩ | ⟨w, w1⟩
    · exact absurd w dn
    · rw [w1]
      have := mono_s (F := F) xy (fun z z1 z2 => rsg_p (by rw [hd z (by grind) (by grind), w1]))
      exact rsg_pos (by grind)
    · rw [w1]
      have := mono_s (F := psm (-1) F) xy (fun z z1 z2 => by
        rw [pdl_m1]
        have := rsg_n (show rsg (pev (pdl F) z) = -1 by rw [hd z (by grind) (by grind), w1])
        grind)
      rw [psm_m1, psm_m1] at this
      exact rsg_neg (by grind)
  have t1 : rsg (pev (pdl F) x0) = 1 ∨ rsg (pev (pdl F) x0) = -1 := by
    rcases rsg_c (pev (pdl F) x0) with ⟨w, _⟩ | ⟨_, w⟩ | ⟨_, w⟩
    · exact absurd w dn
    · exact Or.inl w
    · exact Or.inr w
  refine ⟨- rsg (pev (pdl F) x0), by omega, ⟨x0 - d, rsg_pos (by grind), fun x h1 h2 => ?_⟩, x0 + d, rsg_neg (by grind), fun x h1 h2 => ?_⟩
  · have hx := rsg_p h2
    have := mono x x0 (by grind) (by grind) (by grind)
    rw [h0, show (0 : Rat) - pev F x = -(pev F x) by grind, rsg_ng] at this
    omega
  · have hx := rsg_n h2
    have := mono x0 x (by grind) (by grind) (by grind)
    rw [h0, show pev F x - (0 : Rat) = pev F x by grind] at this
    omega
