/-! the text's loop -/
theorem Tx_out {tx : Nat → Int} {n c k d j : Nat} {A : ats} {r : ou ats} (g : Tx tx n c k d j A r) : tALL tx n (Tx tx n) c k d j A r := by
  obtain ⟨m, g⟩ := g
  cases m with
  | zero => exact g.elim
  | succ m => exact tALL_mono (fun _ _ _ _ _ _ k => ⟨m, k⟩) g
theorem Tx_1 {tx : Nat → Int} {n k d j : Nat} {A : ats} {r : ou ats} (g : Tx tx n 1 k d j A r) : tON tx n (Tx tx n) k d j A r := by
  rcases Tx_out g with ⟨_, h⟩ | ⟨e, _⟩ | ⟨e, _⟩ | ⟨e, _⟩ | ⟨e, _⟩ <;> first | exact h | exact absurd e (by decide)
theorem Tx_2 {tx : Nat → Int} {n k d j : Nat} {A : ats} {r : ou ats} (g : Tx tx n 2 k d j A r) : tLI (Tx tx n) 1 3 d j A r := by
  rcases Tx_out g with ⟨e, _⟩ | ⟨_, h⟩ | ⟨e, _⟩ | ⟨e, _⟩ | ⟨e, _⟩ <;> first | exact h | exact absurd e (by decide)
theorem Tx_3 {tx : Nat → Int} {n k d j : Nat} {A : ats} {r : ou ats} (g : Tx tx n 3 k d j A r) : tRE tx n (Tx tx n) 38 1 3 d j A r := by
  rcases Tx_out g with ⟨e, _⟩ | ⟨e, _⟩ | ⟨_, h⟩ | ⟨e, _⟩ | ⟨e, _⟩ <;> first | exact h | exact absurd e (by decide)
theorem Tx_4 {tx : Nat → Int} {n k d j : Nat} {A : ats} {r : ou ats} (g : Tx tx n 4 k d j A r) : tLI (Tx tx n) 2 5 d j A r := by
  rcases Tx_out g with ⟨e, _⟩ | ⟨e, _⟩ | ⟨e, _⟩ | ⟨_, h⟩ | ⟨e, _⟩ <;> first | exact h | exact absurd e (by decide)
theorem Tx_5 {tx : Nat → Int} {n k d j : Nat} {A : ats} {r : ou ats} (g : Tx tx n 5 k d j A r) : tRE tx n (Tx tx n) 124 2 5 d j A r := by
  rcases Tx_out g with ⟨e, _⟩ | ⟨e, _⟩ | ⟨e, _⟩ | ⟨e, _⟩ | ⟨_, h⟩ <;> first | exact h | exact absurd e (by decide)
section TCONT
variable (tx : Nat → Int) (n : Nat)
def cR3 (W : ou ats → Prop) (d : Nat) : ou ats → Prop
  | .inl e => W (.inl e)
  | .inr (j, B) => ∃ r, Tx tx n 5 0 d j B r ∧ W r
def cR1 (W : ou ats → Prop) (d : Nat) : ou ats → Prop
  | .inl e => W (.inl e)
  | .inr (j, B) => ∃ r, Tx tx n 3 0 d j B r ∧ cR3 tx n W d r
def txS (R : ou ats) : Nat → ou ats → Prop
  | 0, .inl e => R = .inl e
  | 0, .inr (j, B) => (nxc tx n j = 0 ∧ R = .inr (j, B)) ∨ (nxc tx n j ≠ 0 ∧ R = .inl (2, (j : Int)))
  | _ + 1, .inl e => R = .inl e
  | d + 1, .inr (j, B) => (nxc tx n j ≠ 93 ∧ R = .inl (2, (j : Int))) ∨ (nxc tx n j = 93 ∧ ∃ q, adv tx n (j + 1) q ∧ cR1 tx n (txS R d) d (q.map id (fun z => (z.1, B))))
end TCONT
theorem txS_e {tx : Nat → Int} {n : Nat} {R : ou ats} {e : Int × Int} : ∀ {d : Nat}, txS tx n R d (.inl e) → R = .inl e
  | 0, h => h
  | _ + 1, h => h
/-- pieces with & : the first piece, and what is behind it -/
theorem al_1 {tx : Nat → Int} {n d j : Nat} {W : ou ats → Prop} {A : ats} {r2 : ou ats} (g : Tx tx n 2 0 d j A r2) (h : cR3 tx n W d r2) : ∃ r1, Tx tx n 1 0 d j A r1 ∧ cR1 tx n W d r1 := by
  rcases Tx_2 g with ⟨e, k, er⟩ | ⟨j1, B, k, k2⟩
  · subst er; exact ⟨.inl e, k, h⟩
  · exact ⟨.inr (j1, B), k, r2, k2, h⟩
theorem te_1 {tx : Nat → Int} {n d j : Nat} {W : ou ats → Prop} {A : ats} {r4 : ou ats} (g : Tx tx n 4 0 d j A r4) (h : W r4) : ∃ r1, Tx tx n 1 0 d j A r1 ∧ cR1 tx n W d r1 := by
  rcases Tx_4 g with ⟨e, k, er⟩ | ⟨j1, B, k, k2⟩
  · subst er; exact al_1 k h
  · exact al_1 k ⟨r4, k2, h⟩
/-- behind a piece, a sign & or | -/
theorem re_3 {tx : Nat → Int} {n d j : Nat} {W : ou ats → Prop} {A : ats} {r3 : ou ats} (g : Tx tx n 3 0 d j A r3) (h : cR3 tx n W d r3) : ((nxc tx n j = 38 ∨ nxc tx n j = 124) → ∃ q, adv tx n (j + 1) q ∧ ((∃ e, q = .inl e ∧ W (.inl e)) ∨ ∃ j1 r1, q = .inr (j1, ()) ∧ Tx tx n 1 0 d j1 A r1 ∧ cR1 tx n W d r1)) ∧ (nxc tx n j ≠ 38 → nxc tx n j ≠ 124 → W (.inr (j, A))) := by
  rcases Tx_3 g with ⟨n38, er⟩ | ⟨e38, g⟩
  · subst er
    obtain ⟨r5, g5, hw⟩ := h
    rcases Tx_5 g5 with ⟨n124, er⟩ | ⟨e124, g⟩
    · subst er
      refine ⟨fun z => ?_, fun _ _ => hw⟩
      rcases z with z | z
      · exact absurd z n38
      · exact absurd z n124
    · refine ⟨fun _ => ?_, fun _ z => absurd e124 z⟩
      rcases g with ⟨e, a, er⟩ | ⟨j1, a, g⟩
      · subst er; exact ⟨.inl e, a, Or.inl ⟨e, rfl, hw⟩⟩
      · refine ⟨.inr (j1, ()), a, Or.inr ?_⟩
        rcases g with ⟨e, g, er⟩ | ⟨j2, B, g, k⟩
        · subst er
          obtain ⟨r1, x, y⟩ := al_1 (W := W) g hw
          exact ⟨j1, r1, rfl, x, y⟩
        · obtain ⟨r1, x, y⟩ := al_1 (W := W) g ⟨r5, k, hw⟩
          exact ⟨j1, r1, rfl, x, y⟩
  · refine ⟨fun _ => ?_, fun z => absurd e38 z⟩
    rcases g with ⟨e, a, er⟩ | ⟨j1, a, g⟩
    · subst er; exact ⟨.inl e, a, Or.inl ⟨e, rfl, h⟩⟩
    · refine ⟨.inr (j1, ()), a, Or.inr ?_⟩
      rcases g with ⟨e, gg, er⟩ | ⟨j2, B, gg, k⟩
      · subst er; exact ⟨j1, .inl e, rfl, gg, h⟩
      · exact ⟨j1, .inr (j2, B), rfl, gg, r3, k, h⟩
