/-! SIMPLE FRACTIONS: the class -/
theorem fr_le9 {p q p' q' : Int} (hq : 0 < q) (hq' : 0 < q') (h : p * q' ≤ p' * q) : (p : Rat) / (q : Rat) ≤ (p' : Rat) / (q' : Rat) := by
  have a : (0 : Rat) < (q : Rat) := Rat.intCast_pos.2 hq
  have b : (0 : Rat) < (q' : Rat) := Rat.intCast_pos.2 hq'
  have e1 : (p : Rat) / (q : Rat) * (q : Rat) = (p : Rat) := Rat.div_mul_cancel (by grind)
  have e2 : (p' : Rat) / (q' : Rat) * (q' : Rat) = (p' : Rat) := Rat.div_mul_cancel (by grind)
  have y := Rat.intCast_le_intCast.2 h
  rw [Rat.intCast_mul, Rat.intCast_mul] at y
  refine le_of_q (Rat.mul_pos a b) ?_
  generalize (p : Rat) / (q : Rat) = X at *
  generalize (p' : Rat) / (q' : Rat) = Y at *
  rw [show X * ((q : Rat) * q') = X * q * q' by grind, show Y * ((q : Rat) * q') = Y * q' * q by grind, e1, e2]
  exact y
theorem fr_lt9 {c : Rat → Int} {p q p' q' : Int} (hc : cut c) (hq : 0 < q) (hq' : 0 < q') (h : c ((p : Rat) / (q : Rat)) ≠ -1) (h' : c ((p' : Rat) / (q' : Rat)) = -1) : p * q' < p' * q := by
  refine Int.not_le.1 fun w => h (cut_ge1 hc h' (fr_le9 hq' hq ?_))
  exact w
theorem fr_gt9 {c : Rat → Int} {p q p' q' : Int} (hc : cut c) (hq : 0 < q) (hq' : 0 < q') (h : c ((p : Rat) / (q : Rat)) = 1) (h' : c ((p' : Rat) / (q' : Rat)) ≠ 1) : p * q' < p' * q := by
  refine Int.not_le.1 fun w => h' (cut_le1 hc h (fr_le9 hq' hq ?_))
  exact w
/-- the whole part of a root -/
theorem rdt_W {s : im_S} {j o : Nat} {P : List Int} {c0 : Rat → Int} (hc : cut c0) (h : rdt s j o P c0) : (s.1 (311 + 3 * j) 4).natAbs ≤ 1100000000 ∧ flc c0 1 (s.1 (311 + 3 * j) 4) ∧ mbc c0 1 (if s.1 (311 + 3 * j) 1 = 0 then s.1 (311 + 3 * j) 4 else (if ¬ (s.1 (311 + 3 * j) 5 = 0) then s.1 (311 + 3 * j) 4 else s.1 (311 + 3 * j) 4 - 1)) := by
  rcases h with ⟨a, q, ⟨f1, f2, f3, f4, f5, f6, q1, q9, a9, g⟩, z⟩ | ⟨⟨k1, k2, k3, ⟨_, k4, k5⟩, _, K, ⟨w1, w2, w3, w4⟩, w5, w6⟩, _⟩
  · have r0 := Int.emod_nonneg a (show q ≠ 0 by omega)
    have r1 := Int.emod_lt_of_pos a (show 0 < q by omega)
    have ee := Int.mul_ediv_add_emod a q
    have d1 : (a / q).natAbs ≤ 1000000000 := by
      have := Int.natAbs_ediv_le_natAbs a q
      omega
    obtain ⟨u1, u2⟩ := rat_low q1 g
    have cx : ∀ p : Int, c0 ((p : Rat) / ((1 : Int) : Rat)) = sg (a - p * q) := fun p => by
      rw [cut_q hc z, ← sg_qct (by decide), u1, u2, Int.mul_one]
    rw [f1, f4, f5, if_neg (by decide)]
    generalize a / q = W at *
    generalize a % q = r at *
    have e0 : a - W * q = r := by rw [Int.mul_comm W]; omega
    have e1 : a - (W + 1) * q = r - q := by rw [Int.add_mul, Int.one_mul, Int.mul_comm W]; omega
    have e2 : a - (W - 1) * q = r + q := by rw [Int.sub_mul, Int.one_mul, Int.mul_comm W]; omega
    refine ⟨by omega, ⟨?_, ?_⟩, ?_⟩
    · rw [cx, e0]
      have := sg_c r
      omega
    · rw [cx, e1]
      have := sg_c (r - q)
      omega
    · by_cases r9 : r = 0
      · rw [if_neg (fun y => y r9)]
        refine ⟨?_, ?_⟩
        · rw [cx, e2]
          have := sg_c (r + q)
          omega
        · rw [show W - 1 + 1 = W by omega, cx, e0]
          have := sg_c r
          omega
      · rw [if_pos r9]
        refine ⟨?_, ?_⟩
        · rw [cx, e0]
          have := sg_c r
          omega
        · rw [cx, e1]
          have := sg_c (r - q)
          omega
  · rw [k1, if_pos rfl, w3]
    obtain ⟨W, hW⟩ : ∃ W, W = K / 4294967296 := ⟨_, rfl⟩
    rw [← hW]
    have e3 : ((4294967296 : Int) : Rat) = 4294967296 := rfl
    rw [← e3] at w5 w6
    have c1 : c0 ((W : Rat) / ((1 : Int) : Rat)) = 1 := cut_le1 hc w5 (fr_le9 (by decide) (by decide) (by omega))
    have c2 : c0 (((W + 1 : Int) : Rat) / ((1 : Int) : Rat)) = -1 := cut_ge1 hc w6 (fr_le9 (by decide) (by decide) (by omega))
    exact ⟨by omega, ⟨by rw [c1]; decide, c2⟩, c1, by rw [c2]; decide⟩
theorem inC_clq {es : Nat → Rat → Int} {N k : Nat} {x : Rat} (hk : k ≤ N) (hc : ∀ k, k < N → cut (es k)) (hr : ∀ k k', k < k' → k' < N → lft9 (es k) (es k')) : inC es N k x ↔ clq es N x (2 * (k : Int)) := by
  constructor
  · rintro ⟨a, b⟩
    refine Or.inr ⟨k, hk, rfl, fun j hj => ?_, fun j j1 j2 => ?_⟩
    · have a' := a.resolve_left (by omega)
      by_cases e : j = k - 1
      · rw [e]; exact a'
      · exact lft9_r (hc j (by omega)) (hc (k - 1) (by omega)) (hr j (k - 1) (by omega) (by omega)) (by rw [a']; decide)
    · have b' := b.resolve_left (by omega)
      by_cases e : j = k
      · rw [e]; exact b'
      · exact lft9_l (hc k (by omega)) (hc j (by omega)) (hr k j (by omega) j2) (by rw [b']; decide)
  · rintro (⟨k', k1, k2, k3⟩ | ⟨k', k1, k2, k3, k4⟩)
    · omega
    · have : k' = k := by omega
      subst this
      refine ⟨?_, ?_⟩
      · by_cases q : k' = 0
        · exact Or.inl q
        · exact Or.inr (k3 (k' - 1) (by omega))
      · by_cases q : k' = N
        · exact Or.inl q
        · exact Or.inr (k4 k' (Nat.le_refl _) (by omega))
/-- what filling the simple fraction of the cell c writes -/
def scf (c : Nat) (s s' : im_S) : Prop := qwf s s' ∧ ∀ i, i ≠ c → s'.2 580 i = s.2 580 i ∧ s'.2 581 i = s.2 581 i
theorem scf_rfl {c : Nat} {s : im_S} : scf c s s := ⟨gfr_refl _ _ _, fun i _ => ⟨rfl, rfl⟩⟩
theorem scf_tr {c : Nat} {s s' s2 : im_S} (h : scf c s s') (h' : scf c s' s2) : scf c s s2 := ⟨gfr_trans h.1 h'.1, fun i hi => ⟨(h'.2 i hi).1.trans (h.2 i hi).1, (h'.2 i hi).2.trans (h.2 i hi).2⟩⟩
theorem scf_wk {c : Nat} {s s' : im_S} (h : wkf s s') : scf c s s' := ⟨qwf_wk h, fun i _ => ⟨by rw [h.2 580 (by omega)], by rw [h.2 581 (by omega)]⟩⟩
theorem scf_0 {c : Nat} {x : Int} {i : Int} {s : im_S} (hi : i.toNat = c) : scf c s (cpa s 580 i x) := ⟨gfr_pa (gfr_refl _ _ _) (by omega), fun j hj => ⟨by rw [cpa_at9, if_neg (by omega)], by rw [cpa_ne (by decide)]⟩⟩
theorem scf_1 {c : Nat} {x : Int} {i : Int} {s : im_S} (hi : i.toNat = c) : scf c s (cpa s 581 i x) := ⟨gfr_pa (gfr_refl _ _ _) (by omega), fun j hj => ⟨by rw [cpa_ne (by decide)], by rw [cpa_at9, if_neg (by omega)]⟩⟩
/-- the kept simple fractions are right -/
def SCi (s : im_S) (es : Nat → Rat → Int) (N : Nat) : Prop := ∀ k, k ≤ N → s.2 581 (2 * k) = 0 ∨ smp es N k (s.2 580 (2 * k)) (s.2 581 (2 * k))
theorem SCi_scf {c : Nat} {s s' : im_S} {es : Nat → Rat → Int} {N : Nat} (h : SCi s es N) (f : scf c s s') (hc : ∀ k, k ≤ N → 2 * k = c → s'.2 581 (2 * k) = 0 ∨ smp es N k (s'.2 580 (2 * k)) (s'.2 581 (2 * k))) : SCi s' es N := fun k hk => by
  by_cases e : 2 * k = c
  · exact hc k hk e
  · obtain ⟨a, b⟩ := f.2 (2 * k) e
    rw [a, b]
    exact h k hk
/-- between two neighbours of a Stern-Brocot row -/
theorem sb_med {es : Nat → Rat → Int} {N k : Nat} {W la lb ra rb p q : Int} (k0 : 1 ≤ k) (kN : k < N) (c1 : cut (es (k - 1))) (c2 : cut (es k)) (l1 : 1 ≤ lb) (r1 : 1 ≤ rb) (dt : ra * lb - la * rb = 1) (hl : es (k - 1) (((W * lb + la : Int) : Rat) / (lb : Rat)) ≠ -1) (hr : es k (((W * rb + ra : Int) : Rat) / (rb : Rat)) ≠ 1) (q1 : 1 ≤ q) (hi : inC es N k ((p : Rat) / (q : Rat))) : lb + rb ≤ q ∧ (q = lb + rb → p = W * (lb + rb) + (la + ra)) := by
  have a := hi.1.resolve_left (by omega)
  have b := hi.2.resolve_left (by omega)
  have x1 := fr_lt9 c1 (by omega) (by omega) hl a
  have x2 := fr_gt9 c2 (by omega) (by omega) b hr
  obtain ⟨P, hP⟩ : ∃ P, p = W * q + P := ⟨p - W * q, by omega⟩
  subst hP
  have y1 : 1 ≤ P * lb - la * q := by
    have e : (W * q + P) * lb - (W * lb + la) * q = P * lb - la * q := by grind
    omega
  have y2 : 1 ≤ ra * q - P * rb := by
    have e : (W * rb + ra) * q - (W * q + P) * rb = ra * q - P * rb := by grind
    omega
  have key : (P * lb - la * q) * rb + (ra * q - P * rb) * lb = q := by
    have : (P * lb - la * q) * rb + (ra * q - P * rb) * lb = q * (ra * lb - la * rb) := by grind
    rw [this, dt, Int.mul_one]
  have z1 : rb ≤ (P * lb - la * q) * rb := by
    have := Int.mul_le_mul_of_nonneg_right y1 (show 0 ≤ rb by omega)
    omega
  have z2 : lb ≤ (ra * q - P * rb) * lb := by
    have := Int.mul_le_mul_of_nonneg_right y2 (show 0 ≤ lb by omega)
    omega
  refine ⟨by omega, fun e => ?_⟩
  have u : P * lb - la * q = 1 := by
    have w : (P * lb - la * q) * rb = 1 * rb := by omega
    exact Int.eq_of_mul_eq_mul_right (by omega) w
  have v : P * lb = (la + ra) * lb := by
    rw [e] at u
    have e2 : (la + ra) * lb = la * (lb + rb) + (ra * lb - la * rb) := by grind
    rw [e2, dt]
    omega
  rw [Int.eq_of_mul_eq_mul_right (by omega) v, e]
theorem descend_v {s : im_S} {A : Nat → List Int} {m N n k : Nat} {p : Nat → List Int} {M : Nat → Nat → Nat} {cs : Nat → Rat → Int} {oc : Nat → Nat} {W : Int} {Q : im_S → Prop} (h : CVl s A m N n p M cs oc) (k0 : 1 ≤ k) (kN : k < N) (hW : W.natAbs ≤ 2000000000) (hl : cs (oc (k - 1)) ((W : Rat) / ((1 : Int) : Rat)) ≠ -1) (hr : cs (oc k) (((W + 1 : Int) : Rat) / ((1 : Int) : Rat)) ≠ 1) (hQ : ∀ s' : im_S, scf (2 * k) s s' → smp (fun k => cs (oc k)) N k (s'.2 580 (2 * k)) (s'.2 581 (2 * k)) → Q s') : C_descend4 (2 * (k : Int)) W s Q := by
  have N80 := h.1
  have dv : divI (2 * (k : Int)) 2 = (k : Int) := by
    rw [divI_eq (by omega) (by omega) (by omega) (by omega), Int.tdiv_eq_ediv_of_nonneg (by omega)]; omega
  unfold C_descend4
  rw [dv, w32_id (by omega) (by omega), show (k : Int) - 1 = ((k - 1 : Nat) : Int) by omega]
  obtain ⟨o1, o2, cc, o, b1, b2, b3, b4⟩ := CV_at h (k := k - 1) (by omega)
  obtain ⟨o1', o2', cc', o', b1', b2', b3', b4'⟩ := CV_at h kN
  refine rootAt_v (by omega) o2 (rootAt_v (by omega) o2' ?_)
  intro _ s16 e16
  have tn : (2 * (k : Int)).toNat = 2 * k := by omega
  have f16 : scf (2 * k) s s16 := by rw [e16]; exact scf_1 tn
  have v16 : s16.2 581 (2 * k) = -3 := by rw [e16, cpa_at9, if_pos tn.symm]
  refine ⟨fun a => scf (2 * k) s a.2.2.2.2 ∧ a.2.2.2.2.2 581 (2 * k) = -3 ∧ (0 ≤ a.1 ∧ a.1 < a.2.1 ∧ 0 ≤ a.2.2.1 ∧ a.2.2.1 ≤ a.2.2.2.1 ∧ 1 ≤ a.2.2.2.1 ∧ a.2.1 ≤ 2000 ∧ a.2.2.2.1 ≤ 2000) ∧ a.2.2.1 * a.2.1 - a.1 * a.2.2.2.1 = 1 ∧ cs (oc (k - 1)) (((W * a.2.1 + a.1 : Int) : Rat) / (a.2.1 : Rat)) ≠ -1 ∧ cs (oc k) (((W * a.2.2.2.1 + a.2.2.1 : Int) : Rat) / (a.2.2.2.1 : Rat)) ≠ 1, ⟨f16, v16, by (try dsimp only); omega, by show (1 : Int) * 1 - 0 * 1 = 1; decide, ?_, ?_⟩, ?_⟩
  · show cs (oc (k - 1)) (((W * 1 + 0 : Int) : Rat) / ((1 : Int) : Rat)) ≠ -1
    rw [Int.mul_one, Int.add_zero]; exact hl
  · show cs (oc k) (((W * 1 + 1 : Int) : Rat) / ((1 : Int) : Rat)) ≠ 1
    rw [Int.mul_one]; exact hr
  rintro ⟨la, lb, ra, rb, s2⟩ ⟨i1, i2, i3, i4, i5, i6⟩
  dsimp only at i1 i2 i3 i4 i5 i6 ⊢
  obtain ⟨x1, x2, x3, x4, x5, x6, x7⟩ := i3
  have med := fun p q => sb_med (p := p) (q := q) (es := fun k => cs (oc k)) k0 kN cc cc' (show 1 ≤ lb by omega) x5 i4 i5 i6
  unfold C_descend4_40 C_descend4_145
  rw [w64_id (x := lb + rb) (by omega) (by omega), w64_id (x := la + ra) (by omega) (by omega)]
  refine ⟨fun c => hQ s2 i1 (Or.inl ⟨i2, fun p q q1 q2 hin => ?_⟩), fun c => ?_⟩
  · have := (med p q q1 hin).1
    omega
  have h2 := CVl_q h i1.1
  obtain ⟨o3, o4, _, o5, d1, d2, d3, d4⟩ := CV_at h2 (k := k - 1) (by omega)
  have hx : ((lb + rb : Int) : Rat) * (((W * (lb + rb) + (la + ra) : Int) : Rat) / ((lb + rb : Int) : Rat)) = ((W * (lb + rb) + (la + ra) : Int) : Rat) := by
    rw [Rat.mul_comm, Rat.div_mul_cancel]
    have : (0 : Rat) < ((lb + rb : Int) : Rat) := Rat.intCast_pos.2 (by omega)
    grind
  refine compareWith_v (by omega) h2.2.1.1 h2.2.1.2.1 d1 h2.2.1.2.2.2.1 cc d4 (by omega) (by omega) (by omega) (by omega) hx (fun s4 w4 => ?_)
  have f4 := scf_tr i1 (scf_wk (c := 2 * k) w4)
  have v4 : s4.2 581 (2 * k) = -3 := by rw [w4.2 581 (by omega)]; exact i2
  refine ⟨fun z5 => ?_, fun z5 => ?_⟩
  · have h4 := CVl_q h f4.1
    obtain ⟨o3', o4', _, o5', d1', d2', d3', d4'⟩ := CV_at h4 (k := k) kN
    refine compareWith_v (by omega) h4.2.1.1 h4.2.1.2.1 d1' h4.2.1.2.2.2.1 cc' d4' (by omega) (by omega) (by omega) (by omega) hx (fun s7 w7 => ?_)
    have f7 := scf_tr f4 (scf_wk (c := 2 * k) w7)
    have v7 : s7.2 581 (2 * k) = -3 := by rw [w7.2 581 (by omega)]; exact v4
    refine ⟨fun z8 => ?_, fun z8 => ?_⟩
    · intro _ s10 e10 _ s11 e11
      have mb : (W * (lb + rb)).natAbs ≤ 2000000000 * 4000 := by
        rw [Int.natAbs_mul]
        exact Nat.mul_le_mul hW (by omega)
      rw [w64_id (x := W * (lb + rb)) (by omega) (by omega), w64_id (by omega) (by omega)] at e10
      rw [w32_id (by omega) (by omega)] at e11
      have f11 : scf (2 * k) s s11 := by rw [e11, e10]; exact scf_tr f7 (scf_tr (scf_0 tn) (scf_1 tn))
      have r1 : s11.2 581 (2 * k) = lb + rb := by rw [e11, cpa_at9, if_pos tn.symm]
      have r0 : s11.2 580 (2 * k) = W * (lb + rb) + (la + ra) := by rw [e11, cpa_ne (by decide), e10, cpa_at9, if_pos tn.symm]
      refine hQ s11 f11 ?_
      rw [r1, r0]
      have y1 : cs (oc (k - 1)) (((W * (lb + rb) + (la + ra) : Int) : Rat) / ((lb + rb : Int) : Rat)) = -1 := by
        rcases cc.1 (((W * (lb + rb) + (la + ra) : Int) : Rat) / ((lb + rb : Int) : Rat)) with q | q | q <;> omega
      have y2 : cs (oc k) (((W * (lb + rb) + (la + ra) : Int) : Rat) / ((lb + rb : Int) : Rat)) = 1 := by
        rcases cc'.1 (((W * (lb + rb) + (la + ra) : Int) : Rat) / ((lb + rb : Int) : Rat)) with q | q | q <;> omega
      refine Or.inr ⟨by omega, ⟨Or.inr y1, Or.inr y2⟩, fun p q q1 q2 hin => ?_, fun p hin => ?_⟩
      · have := (med p q q1 hin).1
        omega
      · have := (med p (lb + rb) (by omega) hin).2 rfl
        omega
    · refine ⟨f7, v7, ?_, ?_, i5, ?_⟩
      · dsimp only; omega
      · dsimp only
        have e : (la + ra) * lb - la * (lb + rb) = ra * lb - la * rb := by grind
        omega
      · dsimp only; omega
  · refine ⟨f4, v4, ?_, ?_, ?_, i6⟩
    · dsimp only; omega
    · dsimp only
      have e : ra * (lb + rb) - (la + ra) * rb = ra * lb - la * rb := by grind
      omega
    · dsimp only; omega
theorem smp_1 {es : Nat → Rat → Int} {N k : Nat} {a : Int} (h : inC es N k ((a : Rat) / ((1 : Int) : Rat))) (hm : ∀ p : Int, inC es N k ((p : Rat) / ((1 : Int) : Rat)) → a.natAbs ≤ p.natAbs ∧ (p.natAbs = a.natAbs → p ≤ a)) : smp es N k a 1 := Or.inr ⟨by decide, h, fun p q q1 q2 => by omega, hm⟩
theorem fillBetween_94 {s : im_S} {A : Nat → List Int} {m N n k : Nat} {p : Nat → List Int} {M : Nat → Nat → Nat} {cs : Nat → Rat → Int} {oc : Nat → Nat} {W z : Int} {Q : im_S → Prop} (h : CVl s A m N n p M cs oc) (kN : k ≤ N) (hW : W.natAbs ≤ 1500000000)
    (hz : z = 2 * (k : Int) → W = 0 ∧ inC (fun k => cs (oc k)) N k ((0 : Int) / ((1 : Int) : Rat)))
    (hz1 : z < 2 * (k : Int) → 1 ≤ k ∧ 1 ≤ W ∧ flc (cs (oc (k - 1))) 1 (W - 1))
    (hz2 : 2 * (k : Int) < z → k < N ∧ W ≤ -1 ∧ mbc (cs (oc k)) 1 W)
    (hQ : ∀ s' : im_S, scf (2 * k) s s' → smp (fun k => cs (oc k)) N k (s'.2 580 (2 * k)) (s'.2 581 (2 * k)) → Q s') : C_fillBetween4_94 (2 * (k : Int)) W z s Q := by
  have N80 := h.1
  have hcut : ∀ k, k < N → cut (cs (oc k)) := fun k hk => (CV_at h hk).2.2.1
  have hris := h.2.2.2.2.1
  have tn : (2 * (k : Int)).toNat = 2 * k := by omega
  intro _ s1 e1 _ s2 e2
  have f2 : scf (2 * k) s s2 := by rw [e2, e1]; exact scf_tr (scf_0 tn) (scf_1 tn)
  have r1 : s2.2 581 (2 * k) = 1 := by rw [e2, cpa_at9, if_pos tn.symm]
  have r0 : s2.2 580 (2 * k) = W := by rw [e2, cpa_ne (by decide), e1, cpa_at9, if_pos tn.symm]
  have i01 : ((0 : Int) : Rat) / ((1 : Int) : Rat) = (0 : Int) / ((1 : Int) : Rat) := rfl
  refine ⟨fun c => ?_, fun c => ?_⟩
  · obtain ⟨w0, wi⟩ := hz c
    refine hQ s2 f2 ?_
    rw [r1, r0, w0]
    exact smp_1 wi (fun p _ => by omega)
  have h2 := CVl_q h f2.1
  refine locate_v (x := (W : Rat) / ((1 : Int) : Rat)) h2 (by decide) (by decide) (by decide) (by decide) (by rw [Rat.mul_comm, Rat.div_mul_cancel (by decide), Int.mul_one, Int.add_zero]) (fun v s4 w4 cl => ?_)
  have f4 := scf_tr f2 (scf_wk (c := 2 * k) w4)
  have q1 : s4.2 581 (2 * k) = 1 := by rw [w4.2 581 (by omega)]; exact r1
  have q0 : s4.2 580 (2 * k) = W := by rw [w4.2 580 (by omega)]; exact r0
  have iff : v = 2 * (k : Int) ↔ inC (fun k => cs (oc k)) N k ((W : Rat) / ((1 : Int) : Rat)) := by
    rw [inC_clq kN hcut hris]
    exact ⟨fun e => by rw [← e]; exact cl, fun e => clq_u hcut hris cl e⟩
  refine ⟨fun e => ?_, fun e => ?_⟩
  · refine hQ s4 f4 ?_
    rw [q1, q0]
    refine smp_1 (iff.1 e) (fun p hp => ?_)
    rcases Int.lt_trichotomy z (2 * (k : Int)) with y | y | y
    · obtain ⟨k1, w1, fl⟩ := hz1 y
      have := (fl_in (hcut (k - 1) (by omega)) (by decide) fl).1 (hp.1.resolve_left (by omega))
      omega
    · exact absurd y c
    · obtain ⟨k1, w1, mb⟩ := hz2 y
      have := (mb_in (hcut k (by omega)) (by decide) mb).1 (hp.2.resolve_left (by omega))
      omega
  · have ni := fun q => e (iff.2 q)
    intro v7 e7
    have h4 := CVl_q h f4.1
    rcases Int.lt_trichotomy z (2 * (k : Int)) with y | y | y
    · obtain ⟨k1, w1, fl⟩ := hz1 y
      rw [if_neg (by omega), w64_id (by omega) (by omega)] at e7
      rw [e7]
      have a1 : cs (oc (k - 1)) ((W : Rat) / ((1 : Int) : Rat)) = -1 := by
        have := fl.2
        rw [show W - 1 + 1 = W by omega] at this
        exact this
      have kn' : k ≠ N := fun q => ni ⟨Or.inr a1, Or.inl q⟩
      refine descend_v h4 k1 (by omega) (by omega) fl.1 (fun q => ni ⟨Or.inr a1, Or.inr ?_⟩) (fun s' f' sm => hQ s' (scf_tr f4 f') sm)
      rw [show W - 1 + 1 = W by omega] at q
      exact q
    · exact absurd y c
    · obtain ⟨k1, w1, mb⟩ := hz2 y
      rw [if_pos (by omega)] at e7
      rw [e7]
      have kz : k ≠ 0 := fun q => ni ⟨Or.inl q, Or.inr mb.1⟩
      refine descend_v h4 (by omega) k1 (by omega) (fun q => ni ⟨Or.inr q, Or.inr mb.1⟩) mb.2 (fun s' f' sm => hQ s' (scf_tr f4 f') sm)
theorem fillBetween_v {s : im_S} {A : Nat → List Int} {m N n k : Nat} {p : Nat → List Int} {M : Nat → Nat → Nat} {cs : Nat → Rat → Int} {oc : Nat → Nat} {Q : im_S → Prop} (h : CVl s A m N n p M cs oc) (hS : SCi s (fun k => cs (oc k)) N) (kN : k ≤ N) (hQ : ∀ s' : im_S, scf (2 * k) s s' → smp (fun k => cs (oc k)) N k (s'.2 580 (2 * k)) (s'.2 581 (2 * k)) → Q s') : C_fillBetween4 (2 * (k : Int)) s Q := by
  have N80 := h.1
  have hcut : ∀ k, k < N → cut (cs (oc k)) := fun k hk => (CV_at h hk).2.2.1
  have hris := h.2.2.2.2.1
  have tn : (2 * (k : Int)).toNat = 2 * k := by omega
  have rr : cga s 581 (2 * (k : Int)) = s.2 581 (2 * k) := by show s.2 581 (2 * (k : Int)).toNat = _; rw [tn]
  have dv : divI (2 * (k : Int)) 2 = (k : Int) := by
    rw [divI_eq (by omega) (by omega) (by omega) (by omega), Int.tdiv_eq_ediv_of_nonneg (by omega)]; omega
  intro _
  rw [rr]
  refine ⟨fun _ => ?_, fun c => hQ s scf_rfl ((hS k kN).resolve_left c)⟩
  refine locate_v (x := ((0 : Int) : Rat) / ((1 : Int) : Rat)) h (by decide) (by decide) (by decide) (by decide) (by rw [Rat.mul_comm, Rat.div_mul_cancel (by decide)]; rfl) (fun z s1 w1 cl => ?_)
  have h1 := CVl_wk h w1
  have fin := fun s' (f' : scf (2 * k) s1 s') sm => hQ s' (scf_tr (scf_wk w1) f') sm
  rw [dv]
  refine ⟨fun a => ⟨fun b => ?_, fun b => ?_⟩, fun a => ?_⟩
  · have ez : z = 2 * (k : Int) := by omega
    refine fillBetween_94 h1 kN (by decide) (fun _ => ⟨rfl, ?_⟩) (fun q => by omega) (fun q => by omega) fin
    exact (inC_clq kN hcut hris).2 (by rw [← ez]; exact cl)
  · have zb : z ≤ 2 * (N : Int) := by rcases cl with ⟨k', k1, k2, k3⟩ | ⟨k', k1, k2, k3, k4⟩ <;> omega
    have kN' : k < N := by omega
    obtain ⟨o1, o2, cc, o, b1, b2, b3, b4⟩ := CV_at h1 kN'
    refine rootAt_v (by omega) o2 ?_
    obtain ⟨wb, fl, mb⟩ := rdt_W cc b4
    intro v ev
    unfold cgf at ev
    rw [w64_id (by omega) (by omega)] at ev
    rw [← ev] at mb
    have n1 : cs (oc k) (((0 : Int) : Rat) / ((1 : Int) : Rat)) ≠ 1 := by
      rcases cl with ⟨k', k1, k2, k3⟩ | ⟨k', k1, k2, k3, k4⟩
      · dsimp only at k2
        by_cases e : k' = k
        · rw [← e, k2]; decide
        · have := lft9_r (hcut k kN') (hcut k' k1) (hris k k' (by omega) k1) (y := ((0 : Int) : Rat) / ((1 : Int) : Rat)) (by rw [k2]; decide)
          rw [this]; decide
      · have := k3 k (by omega)
        dsimp only at this
        rw [this]; decide
    have vn : v ≤ -1 := by
      have : ¬ (0 ≤ v) := fun y => n1 ((mb_in (p := 0) cc (by decide) mb).2 y)
      omega
    refine fillBetween_94 h1 kN (by
      by_cases q : s1.1 (311 + 3 * oc k) 1 = 0
      · rw [if_pos q] at ev; omega
      · rw [if_neg q] at ev
        by_cases q' : s1.1 (311 + 3 * oc k) 5 = 0
        · rw [if_neg (fun y => y q')] at ev; omega
        · rw [if_pos q'] at ev; omega) (fun q => by omega) (fun q => by omega) (fun _ => ⟨kN', vn, mb⟩) fin
  · have k0 : 1 ≤ k := by rcases cl with ⟨k', k1, k2, k3⟩ | ⟨k', k1, k2, k3, k4⟩ <;> omega
    rw [w32_id (by omega) (by omega), show (k : Int) - 1 = ((k - 1 : Nat) : Int) by omega]
    obtain ⟨o1, o2, cc, o, b1, b2, b3, b4⟩ := CV_at h1 (k := k - 1) (by omega)
    refine rootAt_v (by omega) o2 ?_
    obtain ⟨wb, fl, mb⟩ := rdt_W cc b4
    unfold cgf
    rw [w64_id (by omega) (by omega)]
    have n1 : cs (oc (k - 1)) (((0 : Int) : Rat) / ((1 : Int) : Rat)) ≠ -1 := by
      rcases cl with ⟨k', k1, k2, k3⟩ | ⟨k', k1, k2, k3, k4⟩
      · dsimp only at k2
        by_cases e : k' = k - 1
        · rw [← e, k2]; decide
        · have := lft9_l (hcut k' k1) (hcut (k - 1) (by omega)) (hris k' (k - 1) (by omega) (by omega)) (y := ((0 : Int) : Rat) / ((1 : Int) : Rat)) (by rw [k2]; decide)
          rw [this]; decide
      · have := k4 (k - 1) (by omega) (by omega)
        dsimp only at this
        rw [this]; decide
    have vn : 0 ≤ s1.1 (311 + 3 * oc (k - 1)) 4 := by
      have : ¬ (s1.1 (311 + 3 * oc (k - 1)) 4 + 1 ≤ 0) := fun y => n1 ((fl_in (p := 0) cc (by decide) fl).2 y)
      omega
    refine fillBetween_94 h1 kN (by omega) (fun q => by omega) (fun _ => ⟨k0, by omega, ?_⟩) (fun q => by omega) fin
    rw [show s1.1 (311 + 3 * oc (k - 1)) 4 + 1 - 1 = s1.1 (311 + 3 * oc (k - 1)) 4 by omega]
    exact fl
theorem isCell9_v {l1 : Int} {s : im_S} {Q : Int → im_S → Prop} (h4 : s.1 0 3 ≠ 0 → 0 ≤ s.1 1 4 ∧ s.1 1 4 ≤ 80) (h1 : s.1 0 3 ≠ 0 → 0 ≤ l1 → l1 ≤ 2 * s.1 1 4 → Q 1 s) (h0 : s.1 0 3 = 0 ∨ l1 < 0 ∨ 2 * s.1 1 4 < l1 → Q 0 s) : C_isCell9 l1 s Q := by
  intro v hv
  rw [hv]
  by_cases c1 : cgf s 0 3 = 0
  · rw [if_pos c1]; exact h0 (Or.inl c1)
  · rw [if_neg c1]
    have b := h4 c1
    by_cases c2 : l1 < 0
    · rw [if_pos c2]; exact h0 (Or.inr (Or.inl c2))
    · rw [if_neg c2, w32_id (by unfold cgf; omega) (by unfold cgf; omega)]
      by_cases c3 : 2 * cgf s 1 4 < l1
      · rw [if_pos c3]; exact h0 (Or.inr (Or.inr c3))
      · rw [if_neg c3]; exact h1 c1 (by omega) (by unfold cgf at c3; omega)
theorem simple9_v {l1 l2 : Int} {s : im_S} {A : Nat → List Int} {m N n : Nat} {p : Nat → List Int} {M : Nat → Nat → Nat} {cs : Nat → Rat → Int} {oc : Nat → Nat} {Q : Int → im_S → Prop} (h : s.1 0 3 ≠ 0 → CVl s A m N n p M cs oc ∧ SCi s (fun k => cs (oc k)) N) (hQ : ∀ (v : Int) (s' : im_S), qwf s s' → (s.1 0 3 ≠ 0 → SCi s' (fun k => cs (oc k)) N) → siQ (s.1 0 3 ≠ 0) l1 l2 (fun k => cs (oc k)) N v → Q v s') : C_simple9 l1 l2 s Q := by
  have bad : (¬ (s.1 0 3 ≠ 0) ∨ l1 < 0 ∨ 2 * (N : Int) < l1 ∨ l2 < 0 ∨ 1 < l2) → C_simple9_17 s Q := fun w => hQ _ s (gfr_refl _ _ _) (fun c => (h c).2) (Or.inl ⟨w, rfl⟩)
  refine isCell9_v (fun c => by have := (h c).1.2.2.1; have := (h c).1.1; omega) (fun c3 c0 c4 => ⟨fun c => absurd c (by decide), fun _ => ⟨fun w0 => bad (Or.inr (Or.inr (Or.inr (Or.inl w0)))), fun w0 => ⟨fun w1 => ?_, fun w1 => bad (Or.inr (Or.inr (Or.inr (Or.inr (by omega)))))⟩⟩⟩) (fun w => ⟨fun _ => bad ?_, fun c => absurd rfl c⟩)
  · obtain ⟨hV, hS⟩ := h c3
    have N80 := hV.1
    have e4 := hV.2.2.1
    have rm : remI l1 2 = l1 % 2 := by rw [remI_eq (by omega) (by omega) (by omega) (by omega), Int.tmod_eq_emod_of_nonneg c0]
    obtain ⟨k, hk⟩ : ∃ k : Nat, l1 / 2 = (k : Int) := ⟨(l1 / 2).toNat, by omega⟩
    have ck : (l1 / 2).toNat = k := by omega
    have good : s.1 0 3 ≠ 0 ∧ 0 ≤ l1 ∧ l1 ≤ 2 * (N : Int) ∧ 0 ≤ l2 ∧ l2 ≤ 1 := ⟨c3, c0, by omega, by omega, w1⟩
    rw [rm]
    refine ⟨fun odd => ?_, fun even => ?_⟩
    · have odd1 : l1 % 2 = 1 := by omega
      have odd2 : ∀ k' : Nat, 2 * k' = l1.toNat → False := fun k' e => by omega
      have dv : divI l1 2 = (k : Int) := by
        rw [divI_eq (by omega) (by omega) (by omega) (by omega), Int.tdiv_eq_ediv_of_nonneg (by omega)]; omega
      unfold C_fillAt4
      rw [dv]
      obtain ⟨o1, o2, cc, o, b1, b2, b3, b4⟩ := CV_at hV (k := k) (by omega)
      refine rootAt_v (by omega) o2 ?_
      intro _ s4 es4
      have f4 : scf l1.toNat s s4 := by rw [es4]; exact scf_0 rfl
      have g : ∀ c f, cgf s4 c f = s.1 c f := fun c f => by rw [es4]; rfl
      have v0 : s4.2 580 l1.toNat = s.1 (311 + 3 * oc k) 2 := by rw [es4, cpa_at9, if_pos rfl]; rfl
      rw [g, g]
      have fin : ∀ (y : Int) (s5 : im_S), s5 = cpa s4 581 l1 y → (y < 0 → y = -3 ∨ y = -2) → ((∃ x : Rat, cs (oc k) x = 0 ∧ ((x.den : Int) ≤ 2000 ∧ y = (x.den : Int) ∧ s.1 (311 + 3 * oc k) 2 = x.num ∨ 2000 < (x.den : Int) ∧ y = -3)) ∨ ((∀ x : Rat, cs (oc k) x ≠ 0) ∧ y = -2)) → C_simple9_46 l1 l2 s5 Q := fun y s5 es5 yb hy => by
        have f5 : scf l1.toNat s s5 := by rw [es5]; exact scf_tr f4 (scf_1 rfl)
        have r1 : cga s5 581 l1 = y := by rw [es5]; show (cpa s4 581 l1 y).2 581 l1.toNat = y; rw [cpa_at9, if_pos rfl]
        have r0 : cga s5 580 l1 = s.1 (311 + 3 * oc k) 2 := by rw [es5]; show (cpa s4 581 l1 y).2 580 l1.toNat = _; rw [cpa_ne (by decide)]; exact v0
        intro _
        rw [r1, r0]
        have S5 : SCi s5 (fun k => cs (oc k)) N := SCi_scf hS f5 (fun k' _ e => (odd2 k' e).elim)
        refine ⟨fun y0 v hv => hQ v s5 f5.1 (fun _ => S5) (Or.inr ⟨good, Or.inr ⟨odd1, ?_⟩⟩), fun y0 => hQ _ s5 f5.1 (fun _ => S5) (Or.inr ⟨good, Or.inr ⟨odd1, ?_⟩⟩)⟩
        · rw [ck]
          rcases hy with ⟨x, x1, ⟨x2, x3, x4⟩ | ⟨x2, x3⟩⟩ | ⟨x1, x2⟩
          · refine Or.inl ⟨x, x1, ?_⟩
            rw [hv, if_pos x2, x3, x4]
            by_cases q : l2 = 0
            · rw [if_neg (fun y => y q), if_pos q]
            · rw [if_pos q, if_neg q]
          · omega
          · omega
        · rw [ck, w64_id (by omega) (by omega)]
          rcases hy with ⟨x, x1, ⟨x2, x3, x4⟩ | ⟨x2, x3⟩⟩ | ⟨x1, x2⟩
          · have := x.den_pos
            omega
          · exact Or.inl ⟨x, x1, by rw [if_neg (by omega), x3]; decide⟩
          · exact Or.inr ⟨x1, by rw [x2]; decide⟩
      rcases b4 with ⟨a, q, ⟨f1, f2, f3, f4', f5, f6, q1, q9, a9, gg⟩, z⟩ | ⟨⟨k1, _, _, ⟨_, _, k5⟩, _⟩, _⟩
      · refine ⟨fun _ v hv _ s5 es5 => ?_, fun c => by omega⟩
        obtain ⟨u1, u2⟩ := rat_low q1 gg
        rw [f3, w32_id (by omega) (by omega)] at hv
        refine fin v s5 es5 (fun y => ?_) (Or.inl ⟨(a : Rat) / (q : Rat), z, ?_⟩)
        · by_cases w : q ≤ 2000
          · rw [if_pos w] at hv; omega
          · rw [if_neg w] at hv; omega
        · rw [u1, u2, f2]
          by_cases w : q ≤ 2000
          · rw [if_pos w] at hv; exact Or.inl ⟨w, hv, rfl⟩
          · rw [if_neg w] at hv; exact Or.inr ⟨by omega, hv⟩
      · refine ⟨fun c => absurd k1 c, fun _ _ s5 es5 => fin (-2) s5 es5 (fun _ => Or.inr rfl) (Or.inr ⟨k5, rfl⟩)⟩
    · have el : l1 = 2 * (k : Int) := by omega
      have kN : k ≤ N := by omega
      rw [el]
      refine fillBetween_v hV hS kN (fun s' f' sm => ?_)
      have tn : (2 * (k : Int)).toNat = 2 * k := by omega
      have r1 : cga s' 581 (2 * (k : Int)) = s'.2 581 (2 * k) := by show s'.2 581 (2 * (k : Int)).toNat = _; rw [tn]
      have r0 : cga s' 580 (2 * (k : Int)) = s'.2 580 (2 * k) := by show s'.2 580 (2 * (k : Int)).toNat = _; rw [tn]
      intro _
      rw [r1, r0]
      have S5 : SCi s' (fun k => cs (oc k)) N := SCi_scf hS f' (fun k' _ e => by
        have : k' = k := by omega
        subst this
        exact Or.inr sm)
      have ans : ∀ v : Int, v = (if s'.2 581 (2 * k) < 0 then -9000000000000000003 else if l2 = 0 then s'.2 580 (2 * k) else s'.2 581 (2 * k)) → Q v s' := fun v hv => hQ v s' f'.1 (fun _ => S5) (Or.inr ⟨good, Or.inl ⟨by omega, _, _, by rw [ck]; exact sm, hv⟩⟩)
      refine ⟨fun y0 v hv => ans v ?_, fun y0 => ans _ ?_⟩
      · rw [hv]
        by_cases q : l2 = 0
        · rw [if_neg (fun y => y q), if_neg (show ¬ s'.2 581 (2 * k) < 0 by omega), if_pos q]
        · rw [if_pos q, if_neg (show ¬ s'.2 581 (2 * k) < 0 by omega), if_neg q]
      · rw [if_pos (show s'.2 581 (2 * k) < 0 by omega)]
        have e3 : s'.2 581 (2 * k) = -3 := by
          rcases sm with ⟨q, _⟩ | ⟨q, _⟩
          · exact q
          · omega
        rw [e3]
        decide
  · rcases w with w | w | w
    · exact Or.inl (fun q => q w)
    · exact Or.inr (Or.inl w)
    · by_cases c5 : s.1 0 3 = 0
      · exact Or.inl (fun q => q c5)
      · have := (h c5).1.2.2.1
        exact Or.inr (Or.inr (Or.inl (by omega)))
