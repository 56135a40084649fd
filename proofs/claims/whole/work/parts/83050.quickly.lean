/-! compareQuickly BY VALUE -/
theorem K_lft {Ka Kb : Int} {ca cb : Rat → Int} (hb : cut cb) (h : Ka < Kb) (z1 : ca (((Ka + 1 : Int) : Rat) / 4294967296) = -1) (z2 : cb ((Kb : Rat) / 4294967296) = 1) : lft9 ca cb := by
  refine ⟨((Ka + 1 : Int) : Rat) / 4294967296, Or.inl ⟨z1, cut_le1 hb z2 ?_⟩⟩
  have q : ((Ka + 1 : Int) : Rat) ≤ (Kb : Rat) := Rat.intCast_le_intCast.2 (by omega)
  have e : ((Ka + 1 : Int) : Rat) / 4294967296 * 4294967296 = ((Ka + 1 : Int) : Rat) := Rat.div_mul_cancel (by decide)
  refine Rat.not_lt.1 fun k => ?_
  have l := (Rat.div_lt_iff (show (0 : Rat) < 4294967296 by decide)).1 k
  rw [e] at l
  exact Rat.not_lt.2 q l
/-- what a comparison tells: 0 tells nothing where neither is a fraction -/
def cmpr (z : Int) (ca cb : Rat → Int) (u : Prop) : Prop := (z = 1 ∧ lft9 cb ca) ∨ (z = -1 ∧ lft9 ca cb) ∨ (z = 0 ∧ (ca = cb ∨ u))
theorem cmpr_x {ca cb : Rat → Int} {u : Prop} {x : Rat} (ha : cut ca) (hb : cut cb) (z : cb x = 0) : cmpr (ca x) ca cb u := by
  rcases ha.1 x with h | h | h
  · exact Or.inr (Or.inl ⟨h, x, Or.inr (Or.inr ⟨h, z⟩)⟩)
  · exact Or.inr (Or.inr ⟨h, Or.inl (cut_same ha hb h z)⟩)
  · exact Or.inl ⟨h, x, Or.inr (Or.inl ⟨z, h⟩)⟩
theorem cmpr_s {ca cb : Rat → Int} {u : Prop} {z : Int} (h : cmpr z cb ca u) : cmpr (w32 (-z)) ca cb u := by
  rcases h with ⟨e, l⟩ | ⟨e, l⟩ | ⟨e, l⟩
  · subst e; exact Or.inr (Or.inl ⟨w32_id (by decide) (by decide), l⟩)
  · subst e; exact Or.inl ⟨w32_id (x := - -1) (by decide) (by decide), l⟩
  · subst e
    exact Or.inr (Or.inr ⟨w32_id (x := -0) (by decide) (by decide), l.imp (fun q => q.symm) id⟩)
theorem cmpr_K {Ka Kb xa ya v : Int} {ca cb : Rat → Int} {u : Prop} (ha : cut ca) (hb : cut cb) (hu : u) (a1 : ca ((Ka : Rat) / 4294967296) = 1) (a2 : ca (((Ka + 1 : Int) : Rat) / 4294967296) = -1) (b1 : cb ((Kb : Rat) / 4294967296) = 1) (b2 : cb (((Kb + 1 : Int) : Rat) / 4294967296) = -1) (h1 : ya < xa → Kb < Ka) (h2 : xa < ya → Ka < Kb) (ev : v = if ya ≤ xa then (if ¬ (xa = ya) then 1 else 0) else -1) : cmpr v ca cb u := by
  rcases Int.lt_trichotomy xa ya with c | c | c
  · rw [cmp_lt c] at ev; exact Or.inr (Or.inl ⟨ev, K_lft hb (h2 c) a2 b1⟩)
  · rw [cmp_eq c] at ev; exact Or.inr (Or.inr ⟨ev, Or.inr hu⟩)
  · rw [cmp_gt c] at ev; exact Or.inl ⟨ev, K_lft ha (h1 c) b2 a1⟩
theorem fr_hx {a q : Int} (q0 : 0 < q) : (q : Rat) * ((a : Rat) / q) = ((a / q * q + a % q : Int) : Rat) := by
  have qr : (0 : Rat) < q := Rat.intCast_pos.2 q0
  have e : a / q * q + a % q = a := by rw [Int.mul_comm]; exact Int.mul_ediv_add_emod a q
  rw [e, Rat.mul_comm]
  exact Rat.div_mul_cancel (by grind)
theorem quickly_v {s : im_S} {n mm ia ib oa ob : Nat} {D : Int} {p : Nat → List Int} {M : Nat → Nat → Nat} {ca cb : Rat → Int} {Q : Int → im_S → Prop} (ha : ia < 80) (hb : ib < 80) (hoa : oa < n) (hob : ob < n) (hB : BI s n D) (hF : BF s n p M mm) (hf : ∃ lo hi mi ot, fq s lo hi mi ot) (cca : cut ca) (ccb : cut cb) (hA : rdt s ia oa (p oa) ca) (hBb : rdt s ib ob (p ob) cb) (hQ : ∀ z s', wkf s s' → cmpr z ca cb (rN9 s ia oa (p oa) ca ∧ rN9 s ib ob (p ob) cb) → Q z s') : C_compareQuickly3 (311 + 3 * ia) (311 + 3 * ib) s Q := by
  rcases hBb with ⟨a, q, hr, z⟩ | nb
  · obtain ⟨f1, f2, f3, f4, f5, f6, b1, b2, b3, b4⟩ := hr
    unfold C_compareQuickly3
    rw [show cgf s (311 + 3 * ib) 1 = 1 from f1, show cgf s (311 + 3 * ib) 4 = a / q from f4, show cgf s (311 + 3 * ib) 5 = a % q from f5, show cgf s (311 + 3 * ib) 3 = q from f3]
    refine ⟨fun e => absurd e (by decide), fun _ => ?_⟩
    exact compareWith_v ha hB hF hoa hf cca hA b1 (by omega) (Int.emod_nonneg _ (by omega)) (Int.emod_lt_of_pos _ (by omega)) (fr_hx (by omega)) (fun s' w => hQ _ s' w (cmpr_x cca ccb z))
  · rcases hA with ⟨a, q, hr, z⟩ | na
    · obtain ⟨f1, f2, f3, f4, f5, f6, b1, b2, b3, b4⟩ := hr
      unfold C_compareQuickly3
      rw [show cgf s (311 + 3 * ia) 1 = 1 from f1, show cgf s (311 + 3 * ia) 4 = a / q from f4, show cgf s (311 + 3 * ia) 5 = a % q from f5, show cgf s (311 + 3 * ia) 3 = q from f3, show cgf s (311 + 3 * ib) 1 = 0 from nb.1.1]
      refine ⟨fun _ => ⟨fun e => absurd e (by decide), fun _ => ?_⟩, fun e => absurd rfl e⟩
      exact compareWith_v hb hB hF hob hf ccb (Or.inr nb) b1 (by omega) (Int.emod_nonneg _ (by omega)) (Int.emod_lt_of_pos _ (by omega)) (fr_hx (by omega)) (fun s' w => hQ _ s' w (cmpr_s (cmpr_x ccb cca z)))
    · have na' := na
      have nb' := nb
      obtain ⟨⟨f1, _, _, _, _, Ka, ⟨_, _, a4, a5⟩, a1, a2⟩, _⟩ := na'
      obtain ⟨⟨g1, _, _, _, _, Kb, ⟨_, _, b4, b5⟩, b1, b2⟩, _⟩ := nb'
      unfold C_compareQuickly3
      rw [show cgf s (311 + 3 * ia) 1 = 0 from f1, show cgf s (311 + 3 * ib) 1 = 0 from g1, show cgf s (311 + 3 * ia) 4 = _ from a4, show cgf s (311 + 3 * ib) 4 = _ from b4, show cgf s (311 + 3 * ia) 5 = _ from a5, show cgf s (311 + 3 * ib) 5 = _ from b5]
      refine ⟨fun _ => ⟨fun _ => ⟨fun e v ev => hQ v s (gfr_refl _ _ _) (cmpr_K cca ccb ⟨na, nb⟩ a1 a2 b1 b2 (fun h => ?_) (fun h => ?_) ev), fun e v ev => hQ v s (gfr_refl _ _ _) (cmpr_K cca ccb ⟨na, nb⟩ a1 a2 b1 b2 (fun h => ?_) (fun h => ?_) ev)⟩, fun e => absurd rfl e⟩, fun e => absurd rfl e⟩
      · omega
      · omega
      · omega
      · omega
