/-! what both sides hold behind the constructors -/
theorem RB_0 {s : im_S} (h : st3 s) (h5 : wgf s 5 = 0) : RB s := by
  obtain ⟨a, b, c, d, e, f, g⟩ := h
  refine ⟨by rw [f, g]; decide, by rw [b]; exact d.symm, by rw [c]; exact e.symm, by rw [a, h5], [], 0, 0, 0, fun _ => [], fun _ => [], fun _ _ => 0, fun _ _ => 0, fun _ _ => 0, fun _ _ => 0, fun _ => 0, fun _ => 0, fun _ _ => 0, fun _ => 0, fun _ => 0, fun _ => [], fun _ => 0, fun _ => 0, fun z => absurd a z, fun z => absurd h5 z⟩
theorem LI5_0 {s0 : im_S} (hT : tI s0) (hv : vI s0) (hR : ∀ b : Nat, gK[b]? = some 23 → s0.1 b 1 = 0) (h3 : st3 s0) (h00 : s0.1 0 0 = 0) (h1 : wgf s0 1 = 0) (h5 : wgf s0 5 = 0) (hK : KP s0) : LI5 s0 := ⟨⟨⟨⟨hT, hv, by rw [h1]; decide, Or.inl h5, by rw [h00, h1], fun b hb => Or.inl (hR b hb)⟩, hK⟩, agr_0 h00⟩, RB_0 h3 h5⟩
