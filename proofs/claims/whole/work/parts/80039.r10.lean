/-! what is still to be read, step by step (no state) -/
theorem te_wb {tx : Nat → Int} {n d j : Nat} {W : ou po → Prop} {L : lev} {rt : ou po} (g : gTE (Gx tx n) d j rt) (hL : L.2.2.2 = none) (h : ctT tx n W d L rt) : ∃ rp, Gx tx n 1 poX d j rp ∧ ctP tx n W d L rp := by
  rcases g with ⟨e, g, er⟩ | ⟨j1, p, g, k⟩
  · subst er
    exact ⟨.inl e, g, h⟩
  · refine ⟨.inr (j1, p), g, ?_⟩
    unfold ctP
    rw [hL]
    exact ⟨rt, k, h⟩
theorem su_wb {tx : Nat → Int} {n d j : Nat} {W : ou po → Prop} {rs : ou po} (g : gSU tx n (Gx tx n) d j rs) (hW : W rs) : (nxc tx n j = 45 → ∃ q, adv tx n (j + 1) q ∧ ((∃ e, q = .inl e ∧ W (.inl e)) ∨ ∃ j2 rp, q = .inr (j2, ()) ∧ Gx tx n 1 poX d j2 rp ∧ ctP tx n W d (none, -1, 0, none) rp)) ∧ (nxc tx n j ≠ 45 → ∃ rp, Gx tx n 1 poX d j rp ∧ ctP tx n W d (none, 1, 0, none) rp) := by
  have term : ∀ (sg : Int) (j1 : Nat), sg = 1 ∨ sg = -1 → ((∃ e, Gx tx n 2 poX d j1 (.inl e) ∧ rs = .inl e) ∨ ∃ j2 p, Gx tx n 2 poX d j1 (.inr (j2, p)) ∧ Gx tx n 5 (if sg = -1 then poN p else p) d j2 rs) → ∃ rp, Gx tx n 1 poX d j1 rp ∧ ctP tx n W d (none, sg, 0, none) rp := fun sg j1 hs k => by
    rcases k with ⟨e, k, er⟩ | ⟨j2, p, k, k2⟩
    · exact te_wb (Gx_2 k) rfl (by subst er; exact hW)
    · exact te_wb (Gx_2 k) rfl ⟨rs, k2, hW⟩
  rcases g with ⟨h, g⟩ | ⟨h, g⟩
  · refine ⟨fun _ => ?_, fun z => absurd h z⟩
    rcases g with ⟨e, a, er⟩ | ⟨j1, a, g⟩
    · exact ⟨.inl e, a, Or.inl ⟨e, rfl, by subst er; exact hW⟩⟩
    · obtain ⟨rp, k1, k2⟩ := term (-1) j1 (Or.inr rfl) (by
        rcases g with g | ⟨j2, p, g, k⟩
        · exact Or.inl g
        · exact Or.inr ⟨j2, p, g, by rw [if_pos rfl]; exact k⟩)
      exact ⟨.inr (j1, ()), a, Or.inr ⟨j1, rp, rfl, k1, k2⟩⟩
  · refine ⟨fun z => absurd z h, fun _ => term 1 j (Or.inl rfl) ?_⟩
    rcases g with g | ⟨j2, p, g, k⟩
    · exact Or.inl g
    · exact Or.inr ⟨j2, p, g, by rw [if_neg (by decide)]; exact k⟩
/-- the power that was asked for: what is behind its base -/
theorem wb_b {tx : Nat → Int} {n d j : Nat} {W : ou po → Prop} {L : lev} {rp : ou po} (g : Gx tx n 1 poX d j rp) (h : ctP tx n W d L rp) : ∃ b, Gx tx n 0 poX d j b ∧ ctB tx n W d L b := by
  obtain ⟨b, g0, hb⟩ := gPW_b (Gx_1 g)
  refine ⟨b, g0, ?_⟩
  rcases hb with ⟨e, eb, er⟩ | ⟨j1, p, eb, gp⟩
  · subst eb; subst er; exact h
  · subst eb; exact ⟨rp, gp, h⟩
/-- behind a base that ended at i: what endBase asks -/
theorem ctB_p {tx : Nat → Int} {n d i : Nat} {W : ou po → Prop} {L : lev} {q : ou Unit} {p : po} (ha : adv tx n i q) (h : ctB tx n W d L (q.map id (fun z => (z.1, p)))) : ∃ rp, pwt tx n i p rp ∧ ctP tx n W d L rp := by
  cases q with
  | inl e => exact ⟨.inl e, Or.inl ⟨e, ha, rfl⟩, h⟩
  | inr z =>
    obtain ⟨j1, u⟩ := z
    obtain ⟨r, g, hr⟩ := h
    exact ⟨r, pwt_of ha (Or.inr ⟨j1, rfl, g⟩), hr⟩
theorem ctB_n {tx : Nat → Int} {n d j : Nat} {W : ou po → Prop} {L : lev} {q : ou Int} (hn : nmb tx n j q) (h : ctB tx n W d L (q.map id (fun z => (z.1, poC z.2)))) : (∀ e, q = .inl e → W (.inl e)) ∧ ∀ t v u, adv tx n (j + t) u → q = u.map id (fun z => (z.1, v)) → ∃ rp, pwt tx n (j + t) (poC v) rp ∧ ctP tx n W d L rp := by
  refine ⟨fun e eq => by subst eq; exact h, fun t v u au eq => ?_⟩
  subst eq
  refine ctB_p au ?_
  cases u with
  | inl e => exact h
  | inr z => exact h
/-- a bracket opened: the inner sum and what is behind it -/
theorem ba_push {tx : Nat → Int} {n : Nat} {R : ou po} {ls : List lev} {L : lev} {j : Nat} {b : ou po} (h40 : nxc tx n j = 40) (hd : ls.length < 10) (g : gBA tx n (Gx tx n) ls.length j b) (h : ctB tx n (ctS tx n R ls) ls.length L b) : ∃ q, adv tx n (j + 1) q ∧ ((∃ e, q = .inl e ∧ R = .inl e) ∨ ∃ j1 rs, q = .inr (j1, ()) ∧ Gx tx n 4 poX (ls.length + 1) j1 rs ∧ ctS tx n R (L :: ls) rs) := by
  rcases g with ⟨h1, _⟩ | ⟨h1, _⟩ | ⟨⟨h1, h2, h3⟩, _⟩ | ⟨⟨h1, h2⟩, _⟩ | ⟨_, g⟩
  · rw [h40] at h1; exact absurd h1 (by decide)
  · rw [h40] at h1; exact absurd h1.1 (by decide)
  · exact absurd h40 h2
  · omega
  · rcases g with ⟨e, a, er⟩ | ⟨j1, a, g⟩
    · subst er
      exact ⟨.inl e, a, Or.inl ⟨e, rfl, ctS_e h⟩⟩
    · refine ⟨.inr (j1, ()), a, Or.inr ?_⟩
      rcases g with ⟨e, g, er⟩ | ⟨j2, p, g, k⟩
      · subst er
        exact ⟨j1, .inl e, rfl, g, ctS_e h⟩
      · refine ⟨j1, .inr (j2, p), rfl, g, ?_⟩
        rcases k with ⟨k, er⟩ | ⟨k, q, aq, er⟩
        · subst er
          exact Or.inl ⟨k, ctS_e h⟩
        · subst er
          exact Or.inr ⟨k, q, aq, h⟩
