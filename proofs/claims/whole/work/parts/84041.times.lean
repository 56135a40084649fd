/-! times, atom, common ON BOTH SIDES -/
theorem isAtom9_v {l1 : Int} {s : im_S} {Q : Int → im_S → Prop} (h1 : s.1 0 3 ≠ 0 → 0 ≤ l1 → l1 < s.1 2 11 → Q 1 s) (h0 : s.1 0 3 = 0 ∨ l1 < 0 ∨ s.1 2 11 ≤ l1 → Q 0 s) : C_isAtom9 l1 s Q := by
  intro v hv
  rw [hv]
  by_cases c1 : cgf s 0 3 = 0
  · rw [if_pos c1]; exact h0 (Or.inl c1)
  · rw [if_neg c1]
    by_cases c2 : l1 < 0
    · rw [if_pos c2]; exact h0 (Or.inr (Or.inl c2))
    · rw [if_neg c2]
      by_cases c3 : cgf s 2 11 ≤ l1
      · rw [if_pos c3]; exact h0 (Or.inr (Or.inr c3))
      · rw [if_neg c3]; exact h1 c1 (by omega) (by unfold cgf at c3; omega)
theorem mult_v {s : im_S} {o i n mm : Nat} {p : Nat → List Int} {M : Nat → Nat → Nat} {Q : Int → im_S → Prop} (hF : BF s n p M mm) (n80 : n ≤ 80) (ho : o < n) (hi : i < 10) (hQ : Q (M o i : Int) s) : C_multiplicity0 (o : Int) (i : Int) s Q := by
  intro _
  have e : cga s 246 (w32 (w32 ((o : Int) * 10) + (i : Int))) = (M o i : Int) := by
    rw [w32_id (x := (o : Int) * 10) (by omega) (by omega), w32_id (by omega) (by omega)]
    show s.2 246 ((o : Int) * 10 + i).toNat = _
    rw [show ((o : Int) * 10 + i).toNat = 10 * o + i by omega]
    exact (hF.2.2 o i ho hi).1
  rw [e]
  exact hQ
/-- whose the k-th root is -/
def owC (s : im_S) (oc : Nat → Nat) (k : Nat) : Nat := (s.1 (311 + 3 * oc k) 0).toNat
theorem owC_at {s : im_S} {A : Nat → List Int} {m N n k : Nat} {p : Nat → List Int} {M : Nat → Nat → Nat} {cs : Nat → Rat → Int} {oc : Nat → Nat} (h : CVl s A m N n p M cs oc) (hk : k < N) : owC s oc k < n ∧ s.1 (311 + 3 * oc k) 0 = (owC s oc k : Int) ∧ rtc (p (owC s oc k)) (cs (oc k)) := by
  obtain ⟨o1, o2, cc, o, b1, b2, b3, b4⟩ := CV_at h hk
  have e : owC s oc k = o := by unfold owC; rw [b2, Int.toNat_natCast]
  rw [e]
  exact ⟨b1, b2, b3⟩
def zeroA (A : Nat → List Int) (i : Nat) : Prop := ∀ j, pgt (A i) j = 0
/-- times -/
def tiQ (kn : Prop) (k i : Int) (N m : Nat) (A : Nat → List Int) (mu : Nat → Nat → Nat) (v : Int) : Prop := ((¬ kn ∨ k < 0 ∨ (N : Int) ≤ k ∨ i < 0 ∨ (m : Int) ≤ i) ∧ v = -1) ∨ ((kn ∧ 0 ≤ k ∧ k < (N : Int) ∧ 0 ≤ i ∧ i < (m : Int)) ∧ ((zeroA A i.toNat ∧ v = -2) ∨ (¬ zeroA A i.toNat ∧ v = (mu k.toNat i.toNat : Int))))
theorem dgo_z {d : Int} {P : List Int} (h : dgo d P) : d < 0 ↔ ∀ j, pgt P j = 0 := by
  obtain ⟨h1, h2, h3, h4⟩ := h
  constructor
  · intro q j
    exact h3 j (by omega)
  · intro q
    refine Int.not_le.1 fun z => ?_
    exact h4 z (q _)
theorem times9_v {l1 l2 : Int} {s : im_S} {At : ats} {N n : Nat} {p : Nat → List Int} {M : Nat → Nat → Nat} {cs : Nat → Rat → Int} {oc : Nat → Nat} {Q : Int → im_S → Prop} (h : s.1 0 3 ≠ 0 → tat s At ∧ CVl s (Fa At) At.length N n p M cs oc) (hQ : ∀ v : Int, tiQ (s.1 0 3 ≠ 0) l1 l2 N At.length (Fa At) (fun k i => M (owC s oc k) i) v → Q v s) : C_times9 l1 l2 s Q := by
  have bad : s.1 0 3 = 0 ∨ l1 < 0 ∨ s.1 1 4 ≤ l1 → (¬ (s.1 0 3 ≠ 0) ∨ l1 < 0 ∨ (N : Int) ≤ l1 ∨ l2 < 0 ∨ (At.length : Int) ≤ l2) := fun w => by
    rcases w with w | w | w
    · exact Or.inl (fun q => q w)
    · exact Or.inr (Or.inl w)
    · by_cases c5 : s.1 0 3 = 0
      · exact Or.inl (fun q => q c5)
      · have e4 := (h c5).2.2.2.1
        exact Or.inr (Or.inr (Or.inl (by omega)))
  refine isRoot9_v (fun c5 k0 k4 => ⟨fun c => absurd c (by decide), fun _ => isAtom9_v (fun _ i0 i1 => ⟨fun _ => ?_, fun c => absurd c (by decide)⟩) (fun w => ⟨fun c => absurd rfl c, fun _ => hQ _ (Or.inl ⟨?_, rfl⟩)⟩)⟩) (fun w => ⟨fun _ => hQ _ (Or.inl ⟨bad w, rfl⟩), fun c => absurd rfl c⟩)
  · obtain ⟨ta, hh⟩ := h c5
    have e4 := hh.2.2.1
    have e11 := ta.1
    have N80 := hh.1
    have m10 := ta.2.1
    obtain ⟨kn, rfl⟩ : ∃ kn : Nat, l1 = kn := ⟨l1.toNat, by omega⟩
    obtain ⟨ii, rfl⟩ : ∃ ii : Nat, l2 = ii := ⟨l2.toNat, by omega⟩
    obtain ⟨P, w, e⟩ : ∃ P w, At[ii]? = some (P, w) := ⟨At[ii].1, At[ii].2, by rw [List.getElem?_eq_getElem (by omega)]⟩
    obtain ⟨x, y, _⟩ := ta.2.2 ii P w e
    have fa := Fa_at e
    have dz := dgo_z x.2
    rw [← fa] at dz
    rw [Int.toNat_natCast]
    refine ⟨fun c => ?_, fun c => hQ _ (Or.inr ⟨⟨c5, by omega, by omega, by omega, by omega⟩, Or.inl ⟨?_, rfl⟩⟩)⟩
    · obtain ⟨o1, o2, _⟩ := CV_at hh (k := kn) (by omega)
      obtain ⟨b1, b2, b3⟩ := owC_at hh (k := kn) (by omega)
      refine rootAt_v (by omega) o2 ?_
      rw [show cgf s (311 + 3 * oc kn) 0 = (owC s oc kn : Int) from b2]
      refine mult_v hh.2.1.2.1 hh.2.1.1.2.1 b1 (by omega) (hQ _ (Or.inr ⟨⟨c5, by omega, by omega, by omega, by omega⟩, Or.inr ⟨fun z => ?_, ?_⟩⟩))
      · rw [Int.toNat_natCast] at z
        have := dz.2 z
        unfold cgf at c
        omega
      · rw [Int.toNat_natCast, Int.toNat_natCast]
    · rw [Int.toNat_natCast]
      exact dz.1 (by unfold cgf at c; omega)
  · rcases w with w | w | w
    · exact Or.inl (fun q => q w)
    · exact Or.inr (Or.inr (Or.inr (Or.inl w)))
    · have := (h c5).1.1
      exact Or.inr (Or.inr (Or.inr (Or.inr (by omega))))
/-- the reference's -/
def owR (s : im_S) (od : Nat → Nat) (k : Nat) : Nat := (wga s 607 ((od k : Nat) : Int)).toNat
theorem owR_at {s : im_S} {A : Nat → List Int} {m n nb k : Nat} {b : Nat → List Int} {T : Nat → Nat → Nat} {f : Nat → Int} {F : Nat → List Int} {lo hi : Nat → Rat} {ds : Nat → Rat → Int} {od : Nat → Nat} (h : RVl s A m n nb b T f F lo hi ds od) (hk : k < n) : owR s od k < nb ∧ wga s 607 ((od k : Nat) : Int) = (owR s od k : Int) ∧ rtc (b (owR s od k)) (ds (od k)) := by
  obtain ⟨_, _, _, _, j, j1, j2, j3⟩ := RV_at h hk
  have e : owR s od k = j := by unfold owR; rw [j2, Int.toNat_natCast]
  rw [e]
  exact ⟨j1, j2, j3⟩
theorem timesAt_w {k i : Int} {s : im_S} {A : Nat → List Int} {m n nb : Nat} {b : Nat → List Int} {T : Nat → Nat → Nat} {f : Nat → Int} {F : Nat → List Int} {lo hi : Nat → Rat} {ds : Nat → Rat → Int} {od : Nat → Nat} {Q : Int → im_S → Prop} (h : RVl s A m n nb b T f F lo hi ds od) (hk : 0 ≤ k ∧ k < (n : Int)) (hi' : 0 ≤ i ∧ i < 10) (hQ : Q (T (owR s od k.toNat) i.toNat : Int) s) : W_timesAt k i s Q := by
  refine timesAt_rv h hk hi' (fun j j1 j2 _ => ?_)
  have e : owR s od k.toNat = j := by unfold owR; rw [j2, Int.toNat_natCast]
  rw [e] at hQ
  exact hQ
/-- the degree of an atom's polynomial in row 584 -/
theorem degreeOf_w9 {i : Nat} {s : im_S} {P : List Int} {Q : Int → im_S → Prop} (hi : i < 10) (hP : ∀ k : Nat, k < 9 → wga s 584 (9 * (i : Int) + k) = pgt P k) (h9 : pdb P 9) (hQ : ∀ v : Int, dgo v P → Q v s) : W_degreeOf (i : Int) s Q := by
  unfold W_degreeOf
  refine ⟨fun a => a.2 = s ∧ -1 ≤ a.1 ∧ a.1 ≤ 8 ∧ ∀ k : Nat, a.1 < (k : Int) → pgt P k = 0, fun a => (a.1 + 1).toNat, ⟨rfl, by show (-1 : Int) ≤ 8; decide, Int.le_refl 8, fun k hk => h9 k (by have : (8 : Int) < (k : Int) := hk; omega)⟩, ?_⟩
  rintro ⟨l, s2⟩ ⟨i1, i2, i3, i4⟩
  dsimp only at i1 i2 i3 i4 ⊢
  subst i1
  unfold W_degreeOf_3 W_degreeOf_29
  refine ⟨fun c => hQ l ⟨i2, i3, fun k hk => i4 k (by omega), fun c' => by omega⟩, fun c => ⟨by unfold iR; omega, by omega, fun c' => hQ l ⟨i2, i3, fun k hk => i4 k (by omega), fun _ => ?_⟩, fun c' => ⟨by unfold iR; omega, ⟨rfl, by (try dsimp only); omega, by (try dsimp only); omega, fun k hk => ?_⟩, by (try dsimp only); omega⟩⟩⟩
  · have z := hP l.toNat (by omega)
    rw [show ((l.toNat : Nat) : Int) = l by omega] at z
    rw [← z]; exact c'
  · dsimp only at hk
    by_cases q : l < (k : Int)
    · exact i4 k q
    · have e : (k : Int) = l := by omega
      have z := hP k (by omega)
      rw [e, c'] at z
      exact z.symm
theorem times_rv {k i : Int} {s : im_S} {A : Nat → List Int} {m n nb : Nat} {b : Nat → List Int} {T : Nat → Nat → Nat} {f : Nat → Int} {F : Nat → List Int} {lo hi : Nat → Rat} {ds : Nat → Rat → Int} {od : Nat → Nat} {Q : Int → im_S → Prop} (h : wgf s 5 ≠ 0 → RVl s A m n nb b T f F lo hi ds od) (h6 : wgf s 5 ≠ 0 → wgf s 6 = (m : Int) ∧ m ≤ 10 ∧ ∀ i, i < m → pdb (A i) 9 ∧ ∀ k : Nat, k < 9 → wga s 584 (9 * (i : Int) + k) = pgt (A i) k) (hQ : ∀ v : Int, tiQ (wgf s 5 ≠ 0) k i n m A (fun k i => T (owR s od k) i) v → Q v s) : W_times k i s Q := by
  unfold W_times W_times_16 W_times_39
  refine isRoot_v (fun c5 k0 k41 => ⟨fun c => absurd c (by decide), fun _ => isAtom_w9 (fun _ i0 i6 => ⟨fun _ => ?_, fun c => absurd c (by decide)⟩) (fun w => ⟨fun c => absurd rfl c, fun _ => hQ _ (Or.inl ⟨?_, rfl⟩)⟩)⟩) (fun w => ⟨fun _ => hQ _ (Or.inl ⟨?_, rfl⟩), fun c => absurd rfl c⟩)
  · have hh := h c5
    obtain ⟨e6, m10, hA⟩ := h6 c5
    have e41 := hh.1.2.1
    obtain ⟨ii, rfl⟩ : ∃ ii : Nat, i = ii := ⟨i.toNat, by omega⟩
    obtain ⟨h9, hr⟩ := hA ii (by omega)
    refine degreeOf_w9 (by omega) hr h9 (fun v dv => ?_)
    have dz := dgo_z dv
    refine ⟨fun c => timesAt_w hh ⟨k0, by omega⟩ (by omega) (hQ _ (Or.inr ⟨⟨c5, k0, by omega, by omega, by omega⟩, Or.inr ⟨fun z => ?_, rfl⟩⟩)), fun c => hQ _ (Or.inr ⟨⟨c5, k0, by omega, by omega, by omega⟩, Or.inl ⟨?_, rfl⟩⟩)⟩
    · rw [Int.toNat_natCast] at z
      have := dz.2 z
      omega
    · rw [Int.toNat_natCast]
      exact dz.1 (by omega)
  · rcases w with w | w | w
    · exact Or.inl (fun q => q w)
    · exact Or.inr (Or.inr (Or.inr (Or.inl w)))
    · have := (h6 c5).1
      exact Or.inr (Or.inr (Or.inr (Or.inr (by omega))))
  · rcases w with w | w | w
    · exact Or.inl (fun q => q w)
    · exact Or.inr (Or.inl w)
    · by_cases c5 : wgf s 5 = 0
      · exact Or.inl (fun q => q c5)
      · have e41 := (h c5).1.2.1
        exact Or.inr (Or.inr (Or.inl (by omega)))
