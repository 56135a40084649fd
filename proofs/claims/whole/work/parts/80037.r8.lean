/-! inversion of the grammar, and what is still to be read -/
theorem Gx_out {tx : Nat → Int} {n c : Nat} {p : po} {d j : Nat} {r : ou po} (g : Gx tx n c p d j r) : gALL tx n (Gx tx n) c p d j r := by
  obtain ⟨m, g⟩ := g
  cases m with
  | zero => exact g.elim
  | succ m => exact gALL_mono (fun _ _ _ _ _ k => ⟨m, k⟩) g
theorem Gx_0 {tx : Nat → Int} {n d j : Nat} {p : po} {r : ou po} (g : Gx tx n 0 p d j r) : gBA tx n (Gx tx n) d j r := by
  rcases Gx_out g with ⟨_, h⟩ | ⟨e, _⟩ | ⟨e, _⟩ | ⟨e, _⟩ | ⟨e, _⟩ | ⟨e, _⟩ <;> first | exact h | exact absurd e (by decide)
theorem Gx_1 {tx : Nat → Int} {n d j : Nat} {p : po} {r : ou po} (g : Gx tx n 1 p d j r) : gPW tx n (Gx tx n) d j r := by
  rcases Gx_out g with ⟨e, _⟩ | ⟨_, h⟩ | ⟨e, _⟩ | ⟨e, _⟩ | ⟨e, _⟩ | ⟨e, _⟩ <;> first | exact h | exact absurd e (by decide)
theorem Gx_2 {tx : Nat → Int} {n d j : Nat} {p : po} {r : ou po} (g : Gx tx n 2 p d j r) : gTE (Gx tx n) d j r := by
  rcases Gx_out g with ⟨e, _⟩ | ⟨e, _⟩ | ⟨_, h⟩ | ⟨e, _⟩ | ⟨e, _⟩ | ⟨e, _⟩ <;> first | exact h | exact absurd e (by decide)
theorem Gx_3 {tx : Nat → Int} {n d j : Nat} {p : po} {r : ou po} (g : Gx tx n 3 p d j r) : gTL tx n (Gx tx n) p d j r := by
  rcases Gx_out g with ⟨e, _⟩ | ⟨e, _⟩ | ⟨e, _⟩ | ⟨_, h⟩ | ⟨e, _⟩ | ⟨e, _⟩ <;> first | exact h | exact absurd e (by decide)
theorem Gx_4 {tx : Nat → Int} {n d j : Nat} {p : po} {r : ou po} (g : Gx tx n 4 p d j r) : gSU tx n (Gx tx n) d j r := by
  rcases Gx_out g with ⟨e, _⟩ | ⟨e, _⟩ | ⟨e, _⟩ | ⟨e, _⟩ | ⟨_, h⟩ | ⟨e, _⟩ <;> first | exact h | exact absurd e (by decide)
theorem Gx_5 {tx : Nat → Int} {n d j : Nat} {p : po} {r : ou po} (g : Gx tx n 5 p d j r) : gSL tx n (Gx tx n) p d j r := by
  rcases Gx_out g with ⟨e, _⟩ | ⟨e, _⟩ | ⟨e, _⟩ | ⟨e, _⟩ | ⟨e, _⟩ | ⟨_, h⟩ <;> first | exact h | exact absurd e (by decide)
/-- a level: the sum so far (none before the first term), the coming term's sign and place, the factors so far with their place (none before the first) -/
abbrev lev : Type := Option po × Int × Int × Option (po × Int)
section CONT
variable (tx : Nat → Int) (n : Nat)
/-- behind a term with the outcome r at depth d; W: what a sum's outcome must fulfil -/
def ctT (W : ou po → Prop) (d : Nat) (L : lev) : ou po → Prop
  | .inl e => W (.inl e)
  | .inr (j, p) => match L.1 with
    | none => ∃ r, Gx tx n 5 (if L.2.1 = -1 then poN p else p) d j r ∧ W r
    | some c => (addo c p L.2.1 none ∧ W (.inl (3, L.2.2.1))) ∨ ∃ m r, addo c p L.2.1 (some m) ∧ Gx tx n 5 m d j r ∧ W r
/-- behind a power -/
def ctP (W : ou po → Prop) (d : Nat) (L : lev) : ou po → Prop
  | .inl e => W (.inl e)
  | .inr (j, q) => match L.2.2.2 with
    | none => ∃ r, Gx tx n 3 q d j r ∧ ctT tx n W d L r
    | some (p, tp) => (mulo p q none ∧ W (.inl (3, tp))) ∨ ∃ m r, mulo p q (some m) ∧ Gx tx n 3 m d j r ∧ ctT tx n W d L r
/-- behind a base -/
def ctB (W : ou po → Prop) (d : Nat) (L : lev) : ou po → Prop
  | .inl e => W (.inl e)
  | .inr (j, q) => ∃ r, gPW tx n (fun c _ _ _ o => c = 0 ∧ o = .inr (j, q)) d 0 r ∧ ctP tx n W d L r
/-- behind a sum, with the levels below it -/
def ctS (R : ou po) : List lev → ou po → Prop
  | [], r => R = r
  | L :: ls, .inl e => R = .inl e
  | L :: ls, .inr (j, p) => (nxc tx n j ≠ 41 ∧ R = .inl (2, (j : Int))) ∨ (nxc tx n j = 41 ∧ ∃ q, adv tx n (j + 1) q ∧ ctB tx n (ctS R ls) ls.length L (q.map id (fun z => (z.1, p))))
end CONT
/-- a fault anywhere is the whole's -/
theorem ctS_e {tx : Nat → Int} {n : Nat} {R : ou po} {e : Int × Int} : ∀ {ls : List lev}, ctS tx n R ls (.inl e) → R = .inl e
  | [], h => h
  | _ :: _, h => h
/-- the whole sum at depth 0 -/
theorem ctS_0 {tx : Nat → Int} {n : Nat} {R : ou po} : ctS tx n R [] R := rfl
/-- out of a power's derivation: what is behind its base -/
theorem gPW_b {tx : Nat → Int} {n d j : Nat} {r : ou po} (g : gPW tx n (Gx tx n) d j r) : ∃ b, Gx tx n 0 poX d j b ∧ ((∃ e, b = .inl e ∧ r = .inl e) ∨ ∃ j1 p, b = .inr (j1, p) ∧ gPW tx n (fun c _ _ _ o => c = 0 ∧ o = .inr (j1, p)) d 0 r) := by
  rcases g with ⟨e, g, q⟩ | ⟨j1, p, g, q⟩
  · exact ⟨.inl e, g, Or.inl ⟨e, rfl, q⟩⟩
  · exact ⟨.inr (j1, p), g, Or.inr ⟨j1, p, rfl, Or.inr ⟨j1, p, ⟨rfl, rfl⟩, q⟩⟩⟩
/-- a base that ends at i with the value p, and its power: what endBase asks -/
theorem pwt_of {tx : Nat → Int} {n d i : Nat} {p : po} {q : ou Unit} {r : ou po} (ha : adv tx n i q) (h : (∃ e, q = .inl e ∧ r = .inl e) ∨ ∃ j1, q = .inr (j1, ()) ∧ gPW tx n (fun c _ _ _ o => c = 0 ∧ o = .inr (j1, p)) d 0 r) : pwt tx n i p r := by
  rcases h with ⟨e, eq, er⟩ | ⟨j1, eq, g⟩
  · subst eq; exact Or.inl ⟨e, ha, er⟩
  · subst eq
    rcases g with ⟨e, ⟨_, z⟩, _⟩ | ⟨j9, p9, ⟨_, z⟩, g⟩
    · cases z
    · cases z
      exact Or.inr ⟨j1, ha, g⟩
