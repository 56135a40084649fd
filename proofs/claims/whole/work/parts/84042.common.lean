/-! rootsOf, distinctRoots, sharedDegree; atom and common ON BOTH SIDES -/
theorem sNt_b {f : Nat → Nat} {c : Nat} : ∀ {n : Nat}, (∀ k, k < n → f k ≤ c) → sNt f n ≤ c * n
  | 0, _ => Nat.zero_le _
  | n + 1, h => by
    show sNt f n + f n ≤ c * (n + 1)
    have a := sNt_b (n := n) (fun k hk => h k (by omega))
    have b := h n (by omega)
    rw [Nat.mul_succ]; omega
theorem rootsOf_v {s : im_S} {A : Nat → List Int} {m N n i : Nat} {p : Nat → List Int} {M : Nat → Nat → Nat} {cs : Nat → Rat → Int} {oc : Nat → Nat} {Q : Int → im_S → Prop} (h : CVl s A m N n p M cs oc) (hi : i < 10) (hQ : Q (sNt (fun k => if M (owC s oc k) i = 0 then 0 else 1) N : Int) s) : C_rootsOf4 (i : Int) s Q := by
  have N80 := h.1
  have e4 := h.2.2.1
  refine ⟨fun a => a.2.2 = s ∧ ∃ k : Nat, k ≤ N ∧ a.2.1 = (k : Int) ∧ a.1 = (sNt (fun k => if M (owC s oc k) i = 0 then 0 else 1) k : Int), ⟨rfl, 0, by omega, rfl, rfl⟩, ?_⟩
  rintro ⟨u, v, s1⟩ ⟨e, k, k1, k2, k3⟩
  dsimp only at e k2 k3 ⊢
  subst e
  subst k2
  refine ⟨fun q => ?_, fun q => ?_⟩
  · have : k = N := by unfold cgf at q; omega
    subst this
    rw [k3]; exact hQ
  · have kN : k < N := by unfold cgf at q; omega
    obtain ⟨o1, o2, _⟩ := CV_at h kN
    obtain ⟨b1, b2, b3⟩ := owC_at h kN
    refine rootAt_v (by omega) o2 ?_
    rw [show cgf s1 (311 + 3 * oc k) 0 = (owC s1 oc k : Int) from b2]
    refine mult_v h.2.1.2.1 h.2.1.1.2.1 b1 hi (fun w hw => ?_)
    have bd := sNt_b (f := fun k => if M (owC s1 oc k) i = 0 then 0 else 1) (c := 1) (n := k) (fun k _ => by (try dsimp only); split <;> omega)
    refine ⟨rfl, k + 1, by omega, w32s (by omega), ?_⟩
    try dsimp only
    show w32 (u + w) = ((sNt (fun k => if M (owC s1 oc k) i = 0 then 0 else 1) k + (if M (owC s1 oc k) i = 0 then 0 else 1) : Nat) : Int)
    by_cases z : M (owC s1 oc k) i = 0
    · rw [if_pos (by omega)] at hw
      rw [if_pos z, hw, k3, w32_id (by omega) (by omega)]; omega
    · rw [if_neg (by omega)] at hw
      rw [if_neg z, hw, k3, w32_id (by omega) (by omega)]; omega
theorem ply_deg {s : im_S} {a : Nat} {P : List Int} (h : ply s a P) (nz : nzp P) : 0 ≤ s.1 a 0 ∧ s.1 a 0 ≤ 8 ∧ dge P (s.1 a 0).toNat := by
  obtain ⟨h1, h2, h3, h4⟩ := h.2
  have d0 : 0 ≤ s.1 a 0 := Int.not_lt.1 fun q => by
    obtain ⟨k, hk⟩ := nz
    exact hk (h3 k (by omega))
  exact ⟨d0, h2, by rw [show (s.1 a 0 + 1).toNat = (s.1 a 0).toNat + 1 by omega] at h3; exact h3, h4 d0⟩
theorem distinctRoots_v {s : im_S} {A : Nat → List Int} {m N n i : Nat} {p : Nat → List Int} {M : Nat → Nat → Nat} {cs : Nat → Rat → Int} {oc : Nat → Nat} {Q : Int → im_S → Prop} (h : CVl s A m N n p M cs oc) (hi : i < 10) (hQ : Q (sNt (fun e => if 1 ≤ M e i then (s.1 (86 + 2 * e) 0).toNat else 0) n : Int) s) : C_distinctRoots0 (i : Int) s Q := by
  have n80 := h.2.1.1.2.1
  have e2 := h.2.1.1.1
  refine ⟨fun a => a.2.2 = s ∧ ∃ k : Nat, k ≤ n ∧ a.2.1 = (k : Int) ∧ a.1 = (sNt (fun e => if 1 ≤ M e i then (s.1 (86 + 2 * e) 0).toNat else 0) k : Int), ⟨rfl, 0, by omega, rfl, rfl⟩, ?_⟩
  rintro ⟨u, v, s1⟩ ⟨e, k, k1, k2, k3⟩
  dsimp only at e k2 k3 ⊢
  subst e
  subst k2
  refine ⟨fun q => ?_, fun q => ?_⟩
  · have : k = n := by unfold cgf at q; omega
    subst this
    rw [k3]; exact hQ
  · have kn : k < n := by unfold cgf at q; omega
    refine mult_v h.2.1.2.1 n80 kn hi (fun w hw => ?_)
    obtain ⟨d0, d8, _⟩ := ply_deg (h.2.1.2.1.1 k kn).1 (h.2.2.2.2.2.2.1.1 k kn).1
    have bd := sNt_b (f := fun e => if 1 ≤ M e i then (s1.1 (86 + 2 * e) 0).toNat else 0) (c := 8) (n := k) (fun e he => by
      try dsimp only
      obtain ⟨_, d8, _⟩ := ply_deg (h.2.1.2.1.1 e (by omega)).1 (h.2.2.2.2.2.2.1.1 e (by omega)).1
      split <;> omega)
    rw [Int.toNat_natCast] at hw
    refine ⟨rfl, k + 1, by omega, w32s (by omega), ?_⟩
    try dsimp only
    show w32 (u + w) = ((sNt (fun e => if 1 ≤ M e i then (s1.1 (86 + 2 * e) 0).toNat else 0) k + (if 1 ≤ M k i then (s1.1 (86 + 2 * k) 0).toNat else 0) : Nat) : Int)
    unfold cgf at hw
    by_cases z : 1 ≤ M k i
    · rw [if_neg (by omega)] at hw
      rw [if_pos z, hw, k3, w32_id (by omega) (by omega)]; omega
    · rw [if_pos (by omega)] at hw
      rw [if_neg z, hw, k3, w32_id (by omega) (by omega)]; omega
/-- does a piece with the counts a stand in all atoms with counts from b -/
def inA (m : Nat) (b a : Nat → Nat) : Bool := decide (∀ j, j < m → b j = 0 ∨ 1 ≤ a j)
theorem inA_co {m : Nat} {b a a' : Nat → Nat} (h : ∀ j, j < m → a j = a' j) : inA m b a = inA m b a' := by
  unfold inA
  congr 1
  exact propext ⟨fun z j hj => by rw [← h j hj]; exact z j hj, fun z j hj => by rw [h j hj]; exact z j hj⟩
theorem inA_cb {m : Nat} {b b' a : Nat → Nat} (h : ∀ j, j < m → b j = b' j) : inA m b a = inA m b' a := by
  unfold inA
  congr 1
  exact propext ⟨fun z j hj => by rw [← h j hj]; exact z j hj, fun z j hj => by rw [h j hj]; exact z j hj⟩
theorem sharedDegree_v {s : im_S} {A : Nat → List Int} {m N n o : Nat} {p : Nat → List Int} {M : Nat → Nat → Nat} {cs : Nat → Rat → Int} {oc : Nat → Nat} {Q : Int → im_S → Prop} (h : CVl s A m N n p M cs oc) (m10 : m ≤ 10) (ho : o < n) (hQ : Q (sNt (fun e => if inA m (M o) (M e) = true then (s.1 (86 + 2 * e) 0).toNat else 0) n : Int) s) : C_sharedDegree0 (o : Int) s Q := by
  have n80 := h.2.1.1.2.1
  have e2 := h.2.1.1.1
  have zr := h.2.2.2.2.2.2.2
  refine ⟨fun a => a.2.2 = s ∧ ∃ k : Nat, k ≤ n ∧ a.2.1 = (k : Int) ∧ a.1 = (sNt (fun e => if inA m (M o) (M e) = true then (s.1 (86 + 2 * e) 0).toNat else 0) k : Int), ⟨rfl, 0, by omega, rfl, rfl⟩, ?_⟩
  rintro ⟨u, v, s1⟩ ⟨e, k, k1, k2, k3⟩
  dsimp only at e k2 k3 ⊢
  subst e
  subst k2
  refine ⟨fun q => ?_, fun q => ?_⟩
  · have : k = n := by unfold cgf at q; omega
    subst this
    rw [k3]; exact hQ
  · have kn : k < n := by unfold cgf at q; omega
    obtain ⟨d0, d8, _⟩ := ply_deg (h.2.1.2.1.1 k kn).1 (h.2.2.2.2.2.2.1.1 k kn).1
    have bd := sNt_b (f := fun e => if inA m (M o) (M e) = true then (s1.1 (86 + 2 * e) 0).toNat else 0) (c := 8) (n := k) (fun e he => by
      try dsimp only
      obtain ⟨_, d8, _⟩ := ply_deg (h.2.1.2.1.1 e (by omega)).1 (h.2.2.2.2.2.2.1.1 e (by omega)).1
      split <;> omega)
    refine ⟨fun a => a.2.2 = s1 ∧ ∃ j : Nat, j ≤ 10 ∧ a.2.1 = (j : Int) ∧ (a.1 = 0 ∨ a.1 = 1) ∧ (a.1 = 1 ↔ ∀ i, i < j → M o i = 0 ∨ 1 ≤ M k i), ⟨rfl, 0, by omega, rfl, Or.inr rfl, ⟨fun _ i hi => by omega, fun _ => rfl⟩⟩, ?_⟩
    rintro ⟨x, y, s2⟩ ⟨e', j, j1, j2, j3, j4⟩
    dsimp only at e' j2 j3 j4 ⊢
    subst e'
    subst j2
    refine ⟨fun q w hw => ?_, fun q => ?_⟩
    · have : j = 10 := by omega
      subst this
      refine ⟨rfl, k + 1, by omega, w32s (by omega), ?_⟩
      have iff : (x = 1) ↔ inA m (M o) (M k) = true := by
        rw [j4]
        unfold inA
        rw [decide_eq_true_iff]
        constructor
        · intro z i hi; exact z i (by omega)
        · intro z i hi
          by_cases c : i < m
          · exact z i c
          · exact Or.inl (zr i (by omega) hi o ho)
      rw [Int.toNat_natCast] at hw
      unfold cgf at hw
      try dsimp only
      show w32 (u + w) = ((sNt (fun e => if inA m (M o) (M e) = true then (s2.1 (86 + 2 * e) 0).toNat else 0) k + (if inA m (M o) (M k) = true then (s2.1 (86 + 2 * k) 0).toNat else 0) : Nat) : Int)
      by_cases z : x = 0
      · have nz : ¬ (inA m (M o) (M k) = true) := fun w => by have := iff.2 w; omega
        rw [if_pos z] at hw
        rw [if_neg nz, hw, k3, w32_id (by omega) (by omega)]; omega
      · rw [if_neg z] at hw
        rw [if_pos (iff.1 (by omega)), hw, k3, w32_id (by omega) (by omega)]; omega
    · have j10 : j < 10 := by omega
      have nxt : ∀ x' : Int, (x' = 0 ∨ x' = 1) → (x' = 1 ↔ ∀ i, i < j + 1 → M o i = 0 ∨ 1 ≤ M k i) → C_sharedDegree0_55 (fun a => a.2.2 = s2 ∧ ∃ k : Nat, k ≤ n ∧ a.2.1 = (k : Int) ∧ a.1 = (sNt (fun e => if inA m (M o) (M e) = true then (s2.1 (86 + 2 * e) 0).toNat else 0) k : Int)) (fun a => a.2.2 = s2 ∧ ∃ j : Nat, j ≤ 10 ∧ a.2.1 = (j : Int) ∧ (a.1 = 0 ∨ a.1 = 1) ∧ (a.1 = 1 ↔ ∀ i, i < j → M o i = 0 ∨ 1 ≤ M k i)) (o : Int) u (k : Int) (j : Int) x' s2 Q := fun x' h1 h2 => ⟨rfl, j + 1, by omega, w32s (by omega), h1, h2⟩
      have ex : (∀ i, i < j + 1 → M o i = 0 ∨ 1 ≤ M k i) ↔ ((∀ i, i < j → M o i = 0 ∨ 1 ≤ M k i) ∧ (M o j = 0 ∨ 1 ≤ M k j)) := ⟨fun z => ⟨fun i hi => z i (by omega), z j (by omega)⟩, fun z i hi => by
        by_cases c : i = j
        · rw [c]; exact z.2
        · exact z.1 i (by omega)⟩
      refine ⟨fun z => nxt 0 (Or.inl rfl) ⟨fun w => absurd w (by decide), fun w => ?_⟩, fun z => ?_⟩
      · have := j4.2 (ex.1 w).1
        omega
      · have x1 : x = 1 := by omega
        refine mult_v h.2.1.2.1 n80 ho j10 ⟨fun z0 => nxt 1 (Or.inr rfl) ⟨fun _ => ex.2 ⟨j4.1 x1, Or.inl (by omega)⟩, fun _ => rfl⟩, fun z0 => mult_v h.2.1.2.1 n80 kn j10 (fun w hw => ?_)⟩
        by_cases c : 1 ≤ M k j
        · rw [if_neg (by omega)] at hw
          exact nxt w (Or.inr hw) ⟨fun _ => ex.2 ⟨j4.1 x1, Or.inr c⟩, fun _ => hw⟩
        · rw [if_pos (by omega)] at hw
          refine nxt w (Or.inl hw) ⟨fun q => by omega, fun q => ?_⟩
          have := (ex.1 q).2
          omega
/-- common: of the class -/
def coQ (kn : Prop) (k : Int) (N : Nat) (c : Nat → Nat) (v : Int) : Prop := ((¬ kn ∨ k < 0 ∨ (N : Int) ≤ k) ∧ v = -1) ∨ ((kn ∧ 0 ≤ k ∧ k < (N : Int)) ∧ v = (c k.toNat : Int))
def cmC (s : im_S) (m n : Nat) (M : Nat → Nat → Nat) (oc : Nat → Nat) (k : Nat) : Nat := sNt (fun e => if inA m (M (owC s oc k)) (M e) = true then (s.1 (86 + 2 * e) 0).toNat else 0) n
theorem common9_v {l1 : Int} {s : im_S} {A : Nat → List Int} {m N n : Nat} {p : Nat → List Int} {M : Nat → Nat → Nat} {cs : Nat → Rat → Int} {oc : Nat → Nat} {Q : Int → im_S → Prop} (h : s.1 0 3 ≠ 0 → m ≤ 10 ∧ CVl s A m N n p M cs oc) (hQ : ∀ v : Int, coQ (s.1 0 3 ≠ 0) l1 N (cmC s m n M oc) v → Q v s) : C_common9 l1 s Q := by
  refine isRoot9_v (fun c5 k0 k4 => ⟨fun _ => ?_, fun c => absurd c (by decide)⟩) (fun w => ⟨fun c => absurd rfl c, fun _ => hQ _ (Or.inl ⟨?_, rfl⟩)⟩)
  · obtain ⟨m10, hh⟩ := h c5
    have e4 := hh.2.2.1
    have N80 := hh.1
    obtain ⟨kn, rfl⟩ : ∃ kn : Nat, l1 = kn := ⟨l1.toNat, by omega⟩
    obtain ⟨o1, o2, _⟩ := CV_at hh (k := kn) (by omega)
    obtain ⟨b1, b2, b3⟩ := owC_at hh (k := kn) (by omega)
    refine rootAt_v (by omega) o2 ?_
    rw [show cgf s (311 + 3 * oc kn) 0 = (owC s oc kn : Int) from b2]
    refine sharedDegree_v hh m10 b1 (hQ _ (Or.inr ⟨⟨c5, by omega, by omega⟩, ?_⟩))
    rw [Int.toNat_natCast]
    rfl
  · rcases w with w | w | w
    · exact Or.inl (fun q => q w)
    · exact Or.inr (Or.inl w)
    · by_cases c5 : s.1 0 3 = 0
      · exact Or.inl (fun q => q c5)
      · have e4 := (h c5).2.2.2.1
        exact Or.inr (Or.inr (by omega))
/-- common: of the reference -/
def cmR (s : im_S) (m nb : Nat) (b : Nat → List Int) (T : Nat → Nat → Nat) (od : Nat → Nat) (k : Nat) : Nat := sNt (fun e => if inA m (T (owR s od k)) (T e) = true then (b e).length - 1 else 0) nb
theorem common_rv {k : Int} {s : im_S} {A : Nat → List Int} {m n nb : Nat} {b : Nat → List Int} {T : Nat → Nat → Nat} {f : Nat → Int} {F : Nat → List Int} {lo hi : Nat → Rat} {ds : Nat → Rat → Int} {od : Nat → Nat} {Q : Int → im_S → Prop} (h : wgf s 5 ≠ 0 → RVl s A m n nb b T f F lo hi ds od) (h6 : wgf s 5 ≠ 0 → wgf s 6 = (m : Int) ∧ m ≤ 10) (hQ : ∀ v : Int, coQ (wgf s 5 ≠ 0) k n (cmR s m nb b T od) v → Q v s) : W_common k s Q := by
  unfold W_common
  refine isRoot_v (fun c5 k0 k41 => ⟨fun _ => ?_, fun c => absurd c (by decide)⟩) (fun w => ⟨fun c => absurd rfl c, fun _ => hQ _ (Or.inl ⟨?_, rfl⟩)⟩)
  · have hh := h c5
    obtain ⟨e6, m10⟩ := h6 c5
    have e41 := hh.1.2.1
    have e34 := hh.1.2.2.1
    have nb80 := hh.1.2.2.2.1
    obtain ⟨kn, rfl⟩ : ∃ kn : Nat, k = kn := ⟨k.toNat, by omega⟩
    have hn : kn < n := by omega
    obtain ⟨ob, _, _⟩ := owR_at hh hn
    refine ⟨fun a => a.2.2 = s ∧ ∃ e : Nat, e ≤ nb ∧ a.2.1 = (e : Int) ∧ a.1 = (sNt (fun e => if inA m (T (owR s od kn)) (T e) = true then (b e).length - 1 else 0) e : Int), fun a => (nb - a.2.1).toNat, ⟨rfl, 0, by omega, rfl, rfl⟩, ?_⟩
    rintro ⟨l2, l3, s2⟩ ⟨i1, e, i2, i3, i4⟩
    dsimp only at i1 i3 i4 ⊢
    subst i1
    subst i3
    unfold W_common_14
    rw [e34]
    refine ⟨fun c => hQ _ (Or.inr ⟨⟨c5, by omega, by omega⟩, ?_⟩), fun c => ?_⟩
    · have : e = nb := by omega
      subst this
      rw [i4, Int.toNat_natCast]
      rfl
    · have en : e < nb := by omega
      obtain ⟨dg, gb⟩ := hh.2.1 e en
      have l1 := gb.1
      have l9 := gb.2.1
      have bd := sNt_b (f := fun e => if inA m (T (owR s2 od kn)) (T e) = true then (b e).length - 1 else 0) (c := 8) (n := e) (fun e' he' => by
        try dsimp only
        have := (hh.2.1 e' (by omega)).2.2.1
        split <;> omega)
      have r2 := (hh.1.2.2.2.2.2.2.2.2.2.1 e en).1
      refine ⟨fun a => a.2.2 = s2 ∧ ∃ j : Nat, j ≤ m ∧ a.2.1 = (j : Int) ∧ (a.1 = 0 ∨ a.1 = 1) ∧ (a.1 = 1 ↔ ∀ i, i < j → T (owR s2 od kn) i = 0 ∨ 1 ≤ T e i), fun a => (m - a.2.1).toNat, ⟨rfl, 0, by omega, rfl, Or.inr rfl, ⟨fun _ i hi => by omega, fun _ => rfl⟩⟩, ?_⟩
      rintro ⟨x, y, s3⟩ ⟨j0, j, j1, j2, j3, j4⟩
      dsimp only at j0 j2 j3 j4 ⊢
      subst j0
      subst j2
      have ex : (∀ i, i < j + 1 → T (owR s3 od kn) i = 0 ∨ 1 ≤ T e i) ↔ ((∀ i, i < j → T (owR s3 od kn) i = 0 ∨ 1 ≤ T e i) ∧ (T (owR s3 od kn) j = 0 ∨ 1 ≤ T e j)) := ⟨fun z => ⟨fun i hi => z i (by omega), z j (by omega)⟩, fun z i hi => by
        by_cases c : i = j
        · rw [c]; exact z.2
        · exact z.1 i (by omega)⟩
      unfold W_common_28 W_common_72
      rw [e6]
      refine ⟨fun c' => ⟨fun _ => by omega, fun _ => r2, fun w hw => ?_⟩, fun c' => ⟨fun z => ⟨by unfold iR; omega, ⟨rfl, j + 1, by omega, by (try dsimp only); omega, Or.inl rfl, ⟨fun w => absurd (show (0 : Int) = 1 from w) (by decide), fun w => by have := j4.2 (ex.1 w).1; omega⟩⟩, by (try dsimp only); omega⟩, fun z => ?_⟩⟩
      · have : j = m := by omega
        subst this
        have iff : (x = 1) ↔ inA j (T (owR s3 od kn)) (T e) = true := by
          rw [j4]
          unfold inA
          rw [decide_eq_true_iff]
        rw [dg] at hw
        refine ⟨by unfold iR; split at hw <;> omega, by unfold iR; omega, ⟨rfl, e + 1, by omega, by (try dsimp only); omega, ?_⟩, by (try dsimp only); omega⟩
        try dsimp only
        show l2 + w = ((sNt (fun e => if inA j (T (owR s3 od kn)) (T e) = true then (b e).length - 1 else 0) e + (if inA j (T (owR s3 od kn)) (T e) = true then (b e).length - 1 else 0) : Nat) : Int)
        by_cases z : x = 0
        · have nz : ¬ (inA j (T (owR s3 od kn)) (T e) = true) := fun w => by have := iff.2 w; omega
          rw [if_pos z] at hw
          rw [if_neg nz, hw, i4]; omega
        · rw [if_neg z] at hw
          rw [if_pos (iff.1 (by omega)), hw, i4]; omega
      · have x1 : x = 1 := by omega
        refine timesAt_w hh ⟨by omega, by omega⟩ ⟨by omega, by omega⟩ ⟨fun _ => by unfold iR; omega, fun _ => by omega, fun w hw => ⟨by unfold iR; omega, ⟨rfl, j + 1, by omega, by (try dsimp only); omega, ?_⟩, by (try dsimp only); omega⟩⟩
        have t6 : wga s3 606 (10 * (e : Int) + (j : Int)) = (T e j : Int) := by
          have := hh.2.2.2.1 e j en (by omega)
          rw [show ((10 * e + j : Nat) : Int) = 10 * (e : Int) + (j : Int) by omega] at this
          exact this
        rw [Int.toNat_natCast, Int.toNat_natCast, t6] at hw
        try dsimp only
        by_cases c : T (owR s3 od kn) j = 0
        · rw [if_pos (by omega)] at hw
          exact ⟨Or.inr hw, fun _ => ex.2 ⟨j4.1 x1, Or.inl c⟩, fun _ => hw⟩
        · rw [if_neg (by omega)] at hw
          by_cases d : 1 ≤ T e j
          · rw [if_neg (by omega)] at hw
            exact ⟨Or.inr hw, fun _ => ex.2 ⟨j4.1 x1, Or.inr d⟩, fun _ => hw⟩
          · rw [if_pos (by omega)] at hw
            refine ⟨Or.inl hw, fun q => by omega, fun q => ?_⟩
            have := (ex.1 q).2
            omega
  · rcases w with w | w | w
    · exact Or.inl (fun q => q w)
    · exact Or.inr (Or.inl w)
    · by_cases c5 : wgf s 5 = 0
      · exact Or.inl (fun q => q c5)
      · have e41 := (h c5).1.2.1
        exact Or.inr (Or.inr (by omega))
/-- both are the same number -/
theorem LINK_cm {s s' : im_S} {A : Nat → List Int} {m N n n' nb : Nat} {p b : Nat → List Int} {M T : Nat → Nat → Nat} {cs ds : Nat → Rat → Int} {oc od : Nat → Nat} {f : Nat → Int} {F : Nat → List Int} {lo hi : Nat → Rat} (h : CVl s A m N n p M cs oc) (h' : RVl s' A m n' nb b T f F lo hi ds od) {k : Nat} (hk : k < N) : cmC s m n M oc k = cmR s' m nb b T od k := by
  obtain ⟨eN, _⟩ := LINK h h'
  obtain ⟨a1, a2, a3⟩ := owC_at h hk
  obtain ⟨b1, b2, b3⟩ := owR_at h' (k := k) (by omega)
  have em : ∀ j, j < m → M (owC s oc k) j = T (owR s' od k) j := fun j hj => LINK_mu h h' hk hj a1 a3 b1 b3
  unfold cmC cmR
  rw [SYS_sum (dp := fun e => (s.1 (86 + 2 * e) 0).toNat) (dq := fun e => (b e).length - 1) h.2.2.2.2.2.2.1 h'.2.2.1 (fun e he => (ply_deg (h.2.1.2.1.1 e he).1 (h.2.2.2.2.2.2.1.1 e he).1).2.2) (fun e he => ?_) (inA m (M (owC s oc k))) (fun x y z => inA_co z)]
  · exact sNt_co (fun e he => by (try dsimp only); rw [inA_cb em])
  · have g := (h'.2.1 e he).2
    have g1 := g.1
    exact ⟨by rw [show (b e).length - 1 + 1 = (b e).length by omega]; exact pdb_len _, by have := g.2.2.2.1; omega⟩
