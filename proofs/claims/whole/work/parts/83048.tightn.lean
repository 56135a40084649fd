/-- all that is known of a root that is no fraction, at one interval -/
def rNx (s : im_S) (j o : Nat) (P : List Int) (c0 : Rat → Int) (c b t : Int) : Prop := (s.1 (311 + 3 * j) 1 = 0 ∧ s.1 (311 + 3 * j) 0 = (o : Int) ∧ 1 ≤ s.1 (311 + 3 * j) 8 ∧ s.1 (311 + 3 * j) 8 ≤ 2000 ∧ s.1 (311 + 3 * j) 9 = t) ∧ (cut c0 ∧ rtc P c0 ∧ ∀ x : Rat, c0 x ≠ 0) ∧ (rst s j c b ∧ cbd c b ∧ 32 ≤ b) ∧ (iso P (xv c b) (xv (c + 1) b) t ∧ c0 (xv c b) = 1 ∧ c0 (xv (c + 1) b) = -1) ∧ ∃ K, whp s j K ∧ c0 ((K : Rat) / 4294967296) = 1 ∧ c0 (((K + 1 : Int) : Rat) / 4294967296) = -1
theorem rNx_of {s : im_S} {j o : Nat} {P : List Int} {c0 : Rat → Int} (h : rN9 s j o P c0) : ∃ c b t, rNx s j o P c0 c b t := by
  obtain ⟨⟨f1, f0, ⟨l1, l2⟩, h3, ⟨c', b', t', rs', cb', b32', iso', _, _⟩, hK⟩, c, b, t, rs, is, cl, cr, f9⟩ := h
  have ebb : b' = b := by rw [← rs'.1, ← rs.1]
  have ecc : c' = c := big_u9 rs'.2 rs.2
  subst ebb
  subst ecc
  exact ⟨c', b', t, ⟨f1, f0, l1, l2, f9⟩, h3, ⟨rs, cb', b32'⟩, ⟨is, cl, cr⟩, hK⟩
theorem rNx_to {s : im_S} {j o : Nat} {P : List Int} {c0 : Rat → Int} {c b t : Int} (h : rNx s j o P c0 c b t) : rN9 s j o P c0 := by
  obtain ⟨⟨f1, f0, l1, l2, f9⟩, h3, ⟨rs, cb, b32⟩, ⟨is, cl, cr⟩, hK⟩ := h
  exact ⟨⟨f1, f0, ⟨l1, l2⟩, h3, ⟨c, b, t, rs, cb, b32, is, cl, cr⟩, hK⟩, c, b, t, rs, is, cl, cr, f9⟩
theorem tighten_n {s : im_S} {j o n mm : Nat} {D wt : Int} {p : Nat → List Int} {M : Nat → Nat → Nat} {c0 : Rat → Int} {Q : im_S → Prop} (hj : j < 80) (hB : BI s n D) (hF : BF s n p M mm) (ho : o < n) (hN : rN9 s j o (p o) c0) (hf : ∃ lo hi mi ot, fq s lo hi mi ot) (h1 : big s 553 1) (hQ : ∀ s', rN9 s' j o (p o) c0 → min wt 640 ≤ s'.1 (311 + 3 * j) 7 → BI s' n D → BF s' n p M mm → (∃ lo hi mi ot, fq s' lo hi mi ot) → big s' 553 1 → tgf j s s' → Q s') : C_tighten3 (311 + 3 * j) (86 + 2 * o) wt s Q := by
  have n80 := hB.2.1
  obtain ⟨c, b, t, ⟨f1, f0, l1, l2, f9⟩, ⟨cc, ct, nf⟩, ⟨rs, cb, b32⟩, ⟨is, cl, cr⟩, K, ⟨K1, K2, K3, K4⟩, hK⟩ := rNx_of hN
  obtain ⟨lo, hi, mi, ot, fq0⟩ := hf
  obtain ⟨hP, hp, _⟩ := hF.1 o ho
  obtain ⟨d, hd⟩ : ∃ d : Nat, s.1 (86 + 2 * o) 0 = (d : Int) := ⟨(s.1 (86 + 2 * o) 0).toNat, by have := dgo_0 hP.2 (pat_0 hp); omega⟩
  refine tighten_c hj hP (by omega) (by omega) hd (pat_b hp) rs cb f1 l1 l2 fq0 h1 (iso_n is) (fun s2 c2 b2 lo2 hi2 mi2 ot2 r2 cw2 bb2 _ b640 l21 l22 fq2 g2 to2 fin2 => ?_)
  have F2 := BF_tg hF g2 n80
  have B2 := BI_tg hB g2
  have o2 := tgf_553 g2 hj h1
  rcases to2 with ⟨_, z0, z1, z2⟩ | ⟨q1, q2, q3, q4, q5⟩
  · exfalso
    refine nf (xv c2 b2) ?_
    rw [iso_c is cc ct cl cr z1 z2, z0, show rsg 0 = 0 by decide, Int.mul_zero]
  · have is2 := iso_sub is q4 q5 (xv_lt c2 b2) q3
    have c0l : c0 (xv c2 b2) = 1 := by
      rw [iso_c is cc ct cl cr q4 (by have := xv_lt c2 b2; grind), is2.2.2.1]
      rcases is2.2.1 with q | q <;> rw [q] <;> rfl
    have c0r : c0 (xv (c2 + 1) b2) = -1 := by
      rw [iso_c is cc ct cl cr (by have := xv_lt c2 b2; grind) q5, is2.2.2.2.1]
      rcases is2.2.1 with q | q <;> rw [q] <;> rfl
    have fk : ∀ f, f = 0 ∨ f = 4 ∨ f = 5 ∨ f = 9 → s2.1 (311 + 3 * j) f = s.1 (311 + 3 * j) f := fun f h => g2.1 _ _ (by unfold tgF; omega)
    refine hQ s2 (rNx_to (c := c2) (b := b2) (t := t) ⟨⟨q1, by rw [fk 0 (by omega)]; exact f0, l21, l22, by rw [fk 9 (by omega)]; exact f9⟩, ⟨cc, ct, nf⟩, ⟨r2, q2, by omega⟩, ⟨is2, c0l, c0r⟩, K, ⟨K1, K2, by rw [fk 4 (by omega)]; exact K3, by rw [fk 5 (by omega)]; exact K4⟩, hK⟩) ?_ B2 F2 ⟨lo2, hi2, mi2, ot2, fq2⟩ o2 g2
    rw [r2.1]
    exact fin2 q1
