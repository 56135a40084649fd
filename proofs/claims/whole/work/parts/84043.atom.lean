/-! atom ON BOTH SIDES -/
def amQ (kn : Prop) (i k : Int) (At : ats) (rt dr : Nat → Int) (v : Int) : Prop := ((¬ kn ∨ i < 0 ∨ (At.length : Int) ≤ i ∨ k < 0 ∨ 12 < k) ∧ v = -2000000000) ∨ ((kn ∧ 0 ≤ i ∧ i < (At.length : Int) ∧ 0 ≤ k ∧ k ≤ 12) ∧ ∃ P w, At[i.toNat]? = some (P, w) ∧ ((k ≤ 8 ∧ v = P k.toNat) ∨ (k = 9 ∧ ∃ d, dgo d (pmk 9 P) ∧ v = if 0 ≤ d then d else -2) ∨ (k = 10 ∧ v = w) ∨ (k = 11 ∧ v = rt i.toNat) ∨ (k = 12 ∧ v = dr i.toNat - rt i.toNat)))
theorem amQ_u {kn : Prop} {i k : Int} {At : ats} {rt dr rt' dr' : Nat → Int} {v v' : Int} (h : amQ kn i k At rt dr v) (h' : amQ kn i k At rt' dr' v') (e1 : kn → i.toNat < At.length → rt i.toNat = rt' i.toNat) (e2 : kn → i.toNat < At.length → dr i.toNat = dr' i.toNat) : v = v' := by
  rcases h with ⟨a, b⟩ | ⟨a, P, w, e, b⟩ <;> rcases h' with ⟨a', b'⟩ | ⟨a', P', w', e', b'⟩
  · omega
  · exfalso; rcases a with q | q | q | q | q <;> first | exact q a'.1 | omega
  · exfalso; rcases a' with q | q | q | q | q <;> first | exact q a.1 | omega
  · rw [e] at e'
    have ee := Option.some.inj e'
    have eP : P = P' := (Prod.mk.inj ee).1
    have ew : w = w' := (Prod.mk.inj ee).2
    subst eP
    subst ew
    have r := e1 a.1 (by omega)
    have d := e2 a.1 (by omega)
    rcases b with ⟨c, b⟩ | ⟨c, x, y, b⟩ | ⟨c, b⟩ | ⟨c, b⟩ | ⟨c, b⟩ <;> rcases b' with ⟨c', b'⟩ | ⟨c', x', y', b'⟩ | ⟨c', b'⟩ | ⟨c', b'⟩ | ⟨c', b'⟩ <;> first | omega | (rw [b, b', dgo_u y y'])
def rtC (s : im_S) (N : Nat) (M : Nat → Nat → Nat) (oc : Nat → Nat) (i : Nat) : Int := (sNt (fun k => if M (owC s oc k) i = 0 then 0 else 1) N : Int)
def drC (s : im_S) (n : Nat) (M : Nat → Nat → Nat) (i : Nat) : Int := (sNt (fun e => if 1 ≤ M e i then (s.1 (86 + 2 * e) 0).toNat else 0) n : Int)
theorem atom9_v {l1 l2 : Int} {s : im_S} {At : ats} {N n : Nat} {p : Nat → List Int} {M : Nat → Nat → Nat} {cs : Nat → Rat → Int} {oc : Nat → Nat} {Q : Int → im_S → Prop} (h : s.1 0 3 ≠ 0 → tat s At ∧ CVl s (Fa At) At.length N n p M cs oc) (hQ : ∀ v : Int, amQ (s.1 0 3 ≠ 0) l1 l2 At (rtC s N M oc) (drC s n M) v → Q v s) : C_atom9 l1 l2 s Q := by
  refine isAtom9_v (fun c5 i0 i1 => ⟨fun c => absurd c (by decide), fun _ => ⟨fun k0 => hQ _ (Or.inl ⟨Or.inr (Or.inr (Or.inr (Or.inl k0))), rfl⟩), fun k0 => ⟨fun k12 => ?_, fun k12 => hQ _ (Or.inl ⟨Or.inr (Or.inr (Or.inr (Or.inr (by omega)))), rfl⟩)⟩⟩⟩) (fun w => ⟨fun _ => hQ _ (Or.inl ⟨?_, rfl⟩), fun c => absurd rfl c⟩)
  · obtain ⟨ta, hh⟩ := h c5
    have e11 := ta.1
    have m10 := ta.2.1
    have N80 := hh.1
    have n80 := hh.2.1.1.2.1
    obtain ⟨ii, rfl⟩ : ∃ ii : Nat, l1 = ii := ⟨l1.toNat, by omega⟩
    obtain ⟨P, w, e⟩ : ∃ P w, At[ii]? = some (P, w) := ⟨At[ii].1, At[ii].2, by rw [List.getElem?_eq_getElem (by omega)]⟩
    obtain ⟨x, y, z⟩ := ta.2.2 ii P w e
    have e' : At[((ii : Nat) : Int).toNat]? = some (P, w) := by rw [Int.toNat_natCast]; exact e
    have good : s.1 0 3 ≠ 0 ∧ (0 : Int) ≤ (ii : Int) ∧ (ii : Int) < (At.length : Int) ∧ 0 ≤ l2 ∧ l2 ≤ 12 := ⟨c5, by omega, by omega, by omega, by omega⟩
    have b1 := sNt_b (f := fun k => if M (owC s oc k) ii = 0 then 0 else 1) (c := 1) (n := N) (fun k _ => by (try dsimp only); split <;> omega)
    have b2 := sNt_b (f := fun e => if 1 ≤ M e ii then (s.1 (86 + 2 * e) 0).toNat else 0) (c := 8) (n := n) (fun e he => by
      try dsimp only
      obtain ⟨_, d8, _⟩ := ply_deg (hh.2.1.2.1.1 e he).1 (hh.2.2.2.2.2.2.1.1 e he).1
      split <;> omega)
    refine ⟨fun k8 => ⟨fun k9 => ⟨fun k10 => ?_, fun k10 => ?_⟩, fun k9 => ?_⟩, fun k8 => ?_⟩
    · refine rootsOf_v hh (by omega) ⟨fun k11 => ?_, fun k11 => hQ _ (Or.inr ⟨good, P, w, e', Or.inr (Or.inr (Or.inr (Or.inl ⟨k11, ?_⟩)))⟩)⟩
      · refine distinctRoots_v hh (by omega) (hQ _ (Or.inr ⟨good, P, w, e', Or.inr (Or.inr (Or.inr (Or.inr ⟨by omega, ?_⟩)))⟩))
        rw [Int.toNat_natCast, w32_id (by omega) (by omega)]
        rfl
      · rw [Int.toNat_natCast]; rfl
    · intro _
      refine hQ _ (Or.inr ⟨good, P, w, e', Or.inr (Or.inr (Or.inl ⟨k10, ?_⟩))⟩)
      show s.2 81 ((ii : Nat) : Int).toNat = w
      rw [Int.toNat_natCast]; exact z
    · intro v hv
      rw [Int.toNat_natCast] at hv
      exact hQ _ (Or.inr ⟨good, P, w, e', Or.inr (Or.inl ⟨k9, s.1 (61 + 2 * ii) 0, x.2, hv⟩)⟩)
    · intro _
      rw [Int.toNat_natCast]
      refine hQ _ (Or.inr ⟨good, P, w, e', Or.inl ⟨by omega, ?_⟩⟩)
      have yb := y l2.toNat (by omega)
      have r : cga s (61 + 2 * ii + 1) l2 = P l2.toNat := by
        show s.2 _ _ = _
        rw [x.1 l2.toNat (by omega), pmk_gt, if_pos (by omega)]
      rw [r, w32_id (by omega) (by omega)]
  · rcases w with w | w | w
    · exact Or.inl (fun q => q w)
    · exact Or.inr (Or.inl w)
    · by_cases c5 : s.1 0 3 = 0
      · exact Or.inl (fun q => q c5)
      · have := (h c5).1.1
        exact Or.inr (Or.inr (Or.inl (by omega)))
def rtR (s : im_S) (n : Nat) (T : Nat → Nat → Nat) (od : Nat → Nat) (i : Nat) : Int := (sNt (fun k => if T (owR s od k) i = 0 then 0 else 1) n : Int)
def drR (nb : Nat) (b : Nat → List Int) (T : Nat → Nat → Nat) (i : Nat) : Int := (sNt (fun e => if 1 ≤ T e i then (b e).length - 1 else 0) nb : Int)
theorem Fa_9 {At : ats} {i : Nat} (h : i < At.length) : pdb (Fa At i) 9 ∧ ∃ P w, At[i]? = some (P, w) ∧ Fa At i = pmk 9 P := by
  obtain ⟨P, w, e⟩ : ∃ P w, At[i]? = some (P, w) := ⟨At[i].1, At[i].2, by rw [List.getElem?_eq_getElem h]⟩
  have fa := Fa_at e
  exact ⟨fun k hk => by rw [fa, pmk_gt, if_neg (by omega)], P, w, e, fa⟩
theorem rat_row {s : im_S} {At : ats} {i : Nat} {P : po} {w : Int} (h : rat s At) (e : At[i]? = some (P, w)) : (∀ k : Nat, k < 9 → wga s 584 (9 * (i : Int) + k) = P k) ∧ wga s 585 (i : Int) = w := by
  obtain ⟨r1, r2, r3⟩ := h.2.2 i P w e
  refine ⟨fun k hk => ?_, ?_⟩
  · show s.2 584 (9 * (i : Int) + k).toNat = _
    rw [show (9 * (i : Int) + (k : Int)).toNat = 9 * i + k by omega]
    exact r1 k hk
  · show s.2 585 ((i : Nat) : Int).toNat = _
    rw [Int.toNat_natCast]
    exact r3
theorem atom_rv {i k : Int} {s : im_S} {At : ats} {n nb : Nat} {b : Nat → List Int} {T : Nat → Nat → Nat} {f : Nat → Int} {F : Nat → List Int} {lo hi : Nat → Rat} {ds : Nat → Rat → Int} {od : Nat → Nat} {Q : Int → im_S → Prop} (h : wgf s 5 ≠ 0 → rat s At ∧ RVl s (Fa At) At.length n nb b T f F lo hi ds od) (hQ : ∀ v : Int, amQ (wgf s 5 ≠ 0) i k At (rtR s n T od) (drR nb b T) v → Q v s) : W_atom i k s Q := by
  unfold W_atom W_atom_18
  refine isAtom_w9 (fun c5 i0 i6 => ⟨fun c => absurd c (by decide), fun _ => ⟨fun k0 => hQ _ (Or.inl ⟨Or.inr (Or.inr (Or.inr (Or.inl k0))), rfl⟩), fun k0 => ⟨fun k12 => ?_, fun k12 => hQ _ (Or.inl ⟨Or.inr (Or.inr (Or.inr (Or.inr (by omega)))), rfl⟩)⟩⟩⟩) (fun w => ⟨fun _ => hQ _ (Or.inl ⟨?_, rfl⟩), fun c => absurd rfl c⟩)
  · obtain ⟨ra, hh⟩ := h c5
    have e6 : wgf s 6 = (At.length : Int) := ra.1
    have m10 := ra.2.1
    have n80 := hh.1.1.1
    have e41 := hh.1.2.1
    have e34 := hh.1.2.2.1
    have nb80 := hh.1.2.2.2.1
    obtain ⟨ii, rfl⟩ : ∃ ii : Nat, i = ii := ⟨i.toNat, by omega⟩
    obtain ⟨h9, P, w, e, fa⟩ := Fa_9 (At := At) (i := ii) (by omega)
    obtain ⟨rw1, rw2⟩ := rat_row ra e
    have y := (ra.2.2 ii P w e).2.1
    have e' : At[((ii : Nat) : Int).toNat]? = some (P, w) := by rw [Int.toNat_natCast]; exact e
    have good : wgf s 5 ≠ 0 ∧ (0 : Int) ≤ (ii : Int) ∧ (ii : Int) < (At.length : Int) ∧ 0 ≤ k ∧ k ≤ 12 := ⟨c5, by omega, by omega, by omega, by omega⟩
    refine ⟨fun k9 => ?_, fun k9 => ?_⟩
    · refine degreeOf_w9 (P := pmk 9 P) (by omega) (fun j hj => by rw [rw1 j hj, pmk_gt, if_pos hj]) (by rw [← fa]; exact h9) (fun v dv => ⟨fun kn9 => ⟨fun kn10 => ?_, fun k10 => ⟨by omega, hQ _ (Or.inr ⟨good, P, w, e', Or.inr (Or.inr (Or.inl ⟨k10, rw2⟩))⟩)⟩⟩, fun k9' v' hv' => hQ _ (Or.inr ⟨good, P, w, e', Or.inr (Or.inl ⟨k9', v, dv, hv'⟩)⟩)⟩)
      refine ⟨fun a => a.2.2 = s ∧ ∃ j : Nat, j ≤ n ∧ a.2.1 = (j : Int) ∧ a.1 = (sNt (fun k => if T (owR s od k) ii = 0 then 0 else 1) j : Int), fun a => (n - a.2.1).toNat, ⟨rfl, 0, by omega, rfl, rfl⟩, ?_⟩
      rintro ⟨l4, l6, s2⟩ ⟨i1, j, j1, j2, j3⟩
      dsimp only at i1 j2 j3 ⊢
      subst i1
      subst j2
      unfold W_atom_86
      rw [e41]
      have bd := sNt_b (f := fun k => if T (owR s2 od k) ii = 0 then 0 else 1) (c := 1) (n := j) (fun k _ => by (try dsimp only); split <;> omega)
      refine ⟨fun c => ?_, fun c => timesAt_w hh ⟨by omega, by omega⟩ ⟨by omega, by omega⟩ (fun u hu => ⟨by unfold iR; split at hu <;> omega, by unfold iR; omega, ⟨rfl, j + 1, by omega, by (try dsimp only); omega, ?_⟩, by (try dsimp only); omega⟩)⟩
      · have jn : j = n := by omega
        subst jn
        refine ⟨fun a => a.2.2 = s2 ∧ ∃ x : Nat, x ≤ nb ∧ a.2.1 = (x : Int) ∧ a.1 = (sNt (fun e => if 1 ≤ T e ii then (b e).length - 1 else 0) x : Int), fun a => (nb - a.2.1).toNat, ⟨rfl, 0, by omega, rfl, rfl⟩, ?_⟩
        rintro ⟨l5, l7, s3⟩ ⟨x1, x, x2, x3, x4⟩
        dsimp only at x1 x3 x4 ⊢
        subst x1
        subst x3
        unfold W_atom_124
        rw [e34]
        have bd2 := sNt_b (f := fun e => if 1 ≤ T e ii then (b e).length - 1 else 0) (c := 8) (n := x) (fun e' he' => by
          try dsimp only
          have := (hh.2.1 e' (by omega)).2.2.1
          split <;> omega)
        refine ⟨fun c' => ⟨fun _ => by unfold iR; omega, fun u hu => ?_⟩, fun c' => ?_⟩
        · have : x = nb := by omega
          subst this
          by_cases k11 : k = 11
          · rw [if_neg (fun z => z k11)] at hu
            refine hQ _ (Or.inr ⟨good, P, w, e', Or.inr (Or.inr (Or.inr (Or.inl ⟨k11, ?_⟩)))⟩)
            rw [hu, j3, Int.toNat_natCast]; rfl
          · rw [if_pos k11] at hu
            refine hQ _ (Or.inr ⟨good, P, w, e', Or.inr (Or.inr (Or.inr (Or.inr ⟨by omega, ?_⟩)))⟩)
            rw [hu, j3, x4, Int.toNat_natCast]; rfl
        · have xn : x < nb := by omega
          have t6 : wga s3 606 (10 * (x : Int) + (ii : Int)) = (T x ii : Int) := by
            have := hh.2.2.2.1 x ii xn (by omega)
            rw [show ((10 * x + ii : Nat) : Int) = 10 * (x : Int) + (ii : Int) by omega] at this
            exact this
          obtain ⟨dg, gb⟩ := hh.2.1 x xn
          have g1 := gb.1
          have g9 := gb.2.1
          have r2 := (hh.1.2.2.2.2.2.2.2.2.2.1 x xn).1
          rw [t6, dg]
          refine ⟨by unfold iR; omega, by omega, fun _ => by omega, fun _ => r2, fun u hu => ⟨by unfold iR; split at hu <;> omega, by unfold iR; omega, ⟨rfl, x + 1, by omega, by (try dsimp only); omega, ?_⟩, by (try dsimp only); omega⟩⟩
          try dsimp only
          show l5 + u = ((sNt (fun e => if 1 ≤ T e ii then (b e).length - 1 else 0) x + (if 1 ≤ T x ii then (b x).length - 1 else 0) : Nat) : Int)
          by_cases z : 1 ≤ T x ii
          · rw [if_neg (by omega)] at hu
            rw [if_pos z, hu, x4]; omega
          · rw [if_pos (by omega)] at hu
            rw [if_neg z, hu, x4]; omega
      · rw [Int.toNat_natCast, Int.toNat_natCast] at hu
        try dsimp only
        show l4 + u = ((sNt (fun k => if T (owR s2 od k) ii = 0 then 0 else 1) j + (if T (owR s2 od j) ii = 0 then 0 else 1) : Nat) : Int)
        by_cases z : T (owR s2 od j) ii = 0
        · rw [if_pos (by omega)] at hu
          rw [if_pos z, hu, j3]; omega
        · rw [if_neg (by omega)] at hu
          rw [if_neg z, hu, j3]; omega
    · have r := rw1 k.toNat (by omega)
      rw [show ((k.toNat : Nat) : Int) = k by omega] at r
      have yb := y k.toNat (by omega)
      rw [r]
      exact ⟨by unfold iR; omega, by omega, by unfold iR; omega, hQ _ (Or.inr ⟨good, P, w, e', Or.inl ⟨by omega, rfl⟩⟩)⟩
  · rcases w with w | w | w
    · exact Or.inl (fun q => q w)
    · exact Or.inr (Or.inl w)
    · by_cases c5 : wgf s 5 = 0
      · exact Or.inl (fun q => q c5)
      · have := (h c5).1.1
        exact Or.inr (Or.inr (Or.inl (by show (At.length : Int) ≤ i; rw [← this]; exact w)))
theorem LINK_rt {s s' : im_S} {A : Nat → List Int} {m N n n' nb : Nat} {p b : Nat → List Int} {M T : Nat → Nat → Nat} {cs ds : Nat → Rat → Int} {oc od : Nat → Nat} {f : Nat → Int} {F : Nat → List Int} {lo hi : Nat → Rat} (h : CVl s A m N n p M cs oc) (h' : RVl s' A m n' nb b T f F lo hi ds od) {i : Nat} (hi' : i < m) : rtC s N M oc i = rtR s' n' T od i ∧ drC s n M i = drR nb b T i := by
  obtain ⟨eN, _⟩ := LINK h h'
  subst eN
  constructor
  · unfold rtC rtR
    congr 1
    refine sNt_co (fun k hk => ?_)
    obtain ⟨a1, a2, a3⟩ := owC_at h hk
    obtain ⟨b1, b2, b3⟩ := owR_at h' (k := k) hk
    try dsimp only
    rw [LINK_mu h h' hk hi' a1 a3 b1 b3]
  · unfold drC drR
    congr 1
    have z := SYS_sum (dp := fun e => (s.1 (86 + 2 * e) 0).toNat) (dq := fun e => (b e).length - 1) h.2.2.2.2.2.2.1 h'.2.2.1 (fun e he => (ply_deg (h.2.1.2.1.1 e he).1 (h.2.2.2.2.2.2.1.1 e he).1).2.2) (fun e he => ?_) (fun a => decide (1 ≤ a i)) (fun x y z => by (try dsimp only); rw [z i hi'])
    · simp only [decide_eq_true_eq] at z
      exact z
    · have g := (h'.2.1 e he).2
      have g1 := g.1
      exact ⟨by rw [show (b e).length - 1 + 1 = (b e).length by omega]; exact pdb_len _, by have := g.2.2.2.1; omega⟩
