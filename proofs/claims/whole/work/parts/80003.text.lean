/-! THE TEXT: atoms, nots, brackets, ands, ors; the atoms that were read are kept -/
abbrev ats : Type := List (po × Int)
abbrev tk9 : Type := Nat → Nat → Nat → Nat → ats → ou ats → Prop
def rlc (c : Int) : Int := if c = 61 then 0 else if c = 60 then 1 else 2
section TGR
variable (tx : Nat → Int) (n : Nat) (H : tk9)
/-- an atom -/
def tAT (j : Nat) (A : ats) (r : ou ats) : Prop :=
  (∃ e, Gx tx n 4 poX 0 j (.inl e) ∧ r = .inl e) ∨ ∃ j1 p, Gx tx n 4 poX 0 j (.inr (j1, p)) ∧
  ((¬ (nxc tx n j1 = 61 ∨ nxc tx n j1 = 60 ∨ nxc tx n j1 = 62) ∧ r = .inl (2, (j1 : Int))) ∨ ((nxc tx n j1 = 61 ∨ nxc tx n j1 = 60 ∨ nxc tx n j1 = 62) ∧
  ((10 ≤ A.length ∧ r = .inl (3, (j1 : Int))) ∨ (A.length < 10 ∧ ((∃ e, adv tx n (j1 + 1) (.inl e) ∧ r = .inl e) ∨ ∃ j2, adv tx n (j1 + 1) (.inr (j2, ())) ∧
  ((∃ e, Gx tx n 4 poX 0 j2 (.inl e) ∧ r = .inl e) ∨ ∃ j3 q, Gx tx n 4 poX 0 j2 (.inr (j3, q)) ∧ ((addo p q (-1) none ∧ r = .inl (3, (j1 : Int))) ∨ ∃ m, addo p q (-1) (some m) ∧ r = .inr (j3, A ++ [(m, rlc (nxc tx n j1))]))))))))
/-- a piece behind k signs ~ -/
def tON (k d j : Nat) (A : ats) (r : ou ats) : Prop :=
  (nxc tx n j = 126 ∧ ((10 ≤ k ∧ r = .inl (3, (j : Int))) ∨ (k < 10 ∧ ((∃ e, adv tx n (j + 1) (.inl e) ∧ r = .inl e) ∨ ∃ j1, adv tx n (j + 1) (.inr (j1, ())) ∧ H 1 (k + 1) d j1 A r)))) ∨
  (nxc tx n j ≠ 126 ∧ nxc tx n j ≠ 91 ∧ tAT tx n j A r) ∨
  (nxc tx n j = 91 ∧ ((10 ≤ d ∧ r = .inl (3, (j : Int))) ∨ (d < 10 ∧ ((∃ e, adv tx n (j + 1) (.inl e) ∧ r = .inl e) ∨ ∃ j1, adv tx n (j + 1) (.inr (j1, ())) ∧
  ((∃ e, H 4 0 (d + 1) j1 A (.inl e) ∧ r = .inl e) ∨ ∃ j2 B, H 4 0 (d + 1) j1 A (.inr (j2, B)) ∧ ((nxc tx n j2 ≠ 93 ∧ r = .inl (2, (j2 : Int))) ∨ (nxc tx n j2 = 93 ∧ ∃ q, adv tx n (j2 + 1) q ∧ r = q.map id (fun z => (z.1, B)))))))))
/-- pieces with sg between them (k the piece's kind, rest the rest's) -/
def tLI (k rest d j : Nat) (A : ats) (r : ou ats) : Prop := (∃ e, H k 0 d j A (.inl e) ∧ r = .inl e) ∨ ∃ j1 B, H k 0 d j A (.inr (j1, B)) ∧ H rest 0 d j1 B r
def tRE (sg : Int) (k rest d j : Nat) (A : ats) (r : ou ats) : Prop :=
  (nxc tx n j ≠ sg ∧ r = .inr (j, A)) ∨ (nxc tx n j = sg ∧ ((∃ e, adv tx n (j + 1) (.inl e) ∧ r = .inl e) ∨ ∃ j1, adv tx n (j + 1) (.inr (j1, ())) ∧ ((∃ e, H k 0 d j1 A (.inl e) ∧ r = .inl e) ∨ ∃ j2 B, H k 0 d j1 A (.inr (j2, B)) ∧ H rest 0 d j2 B r)))
/-- kinds: 1 a piece, 2 pieces with &, 3 their rest, 4 with |, 5 their rest -/
def tALL (c k d j : Nat) (A : ats) (r : ou ats) : Prop :=
  (c = 1 ∧ tON tx n H k d j A r) ∨ (c = 2 ∧ tLI H 1 3 d j A r) ∨ (c = 3 ∧ tRE tx n H 38 1 3 d j A r) ∨ (c = 4 ∧ tLI H 2 5 d j A r) ∨ (c = 5 ∧ tRE tx n H 124 2 5 d j A r)
end TGR
def TT (tx : Nat → Int) (n : Nat) : Nat → tk9
  | 0 => fun _ _ _ _ _ _ => False
  | m + 1 => tALL tx n (TT tx n m)
theorem tALL_mono {tx : Nat → Int} {n : Nat} {G H : tk9} (h : ∀ c k d j A r, G c k d j A r → H c k d j A r) {c k d j : Nat} {A : ats} {r : ou ats} (g : tALL tx n G c k d j A r) : tALL tx n H c k d j A r := by
  revert g
  unfold tALL tON tLI tRE
  repeat' first | exact id | exact h _ _ _ _ _ _ | refine Or.imp ?_ ?_ | refine And.imp ?_ ?_ | refine Exists.imp (fun _ => ?_)
theorem TT_mono {tx : Nat → Int} {n : Nat} : ∀ {m m' : Nat}, m ≤ m' → ∀ {c k d j : Nat} {A : ats} {r : ou ats}, TT tx n m c k d j A r → TT tx n m' c k d j A r
  | 0, _, _, _, _, _, _, _, _, g => g.elim
  | m + 1, 0, h, _, _, _, _, _, _, g => absurd h (by omega)
  | m + 1, m' + 1, h, _, _, _, _, _, _, g => tALL_mono (fun _ _ _ _ _ _ k => TT_mono (by omega) k) g
def Tx (tx : Nat → Int) (n : Nat) : tk9 := fun c k d j A r => ∃ m, TT tx n m c k d j A r
theorem Tx_in {tx : Nat → Int} {n c k d j : Nat} {A : ats} {r : ou ats} (g : tALL tx n (Tx tx n) c k d j A r) : Tx tx n c k d j A r := by
  have up : ∀ {m m' : Nat} {c k d j : Nat} {A : ats} {r : ou ats}, TT tx n m c k d j A r → TT tx n (max m m') c k d j A r := fun h => TT_mono (by omega) h
  have up2 : ∀ {m m' : Nat} {c k d j : Nat} {A : ats} {r : ou ats}, TT tx n m' c k d j A r → TT tx n (max m m') c k d j A r := fun h => TT_mono (by omega) h
  have li : ∀ (kk rest d j : Nat) (A : ats) (r : ou ats), tLI (Tx tx n) kk rest d j A r → ∃ m, tLI (TT tx n m) kk rest d j A r := fun kk rest d j A r g => by
    rcases g with ⟨e, ⟨m, g⟩, q⟩ | ⟨j1, B, ⟨m, g⟩, ⟨m', q⟩⟩
    · exact ⟨m, Or.inl ⟨e, g, q⟩⟩
    · exact ⟨max m m', Or.inr ⟨j1, B, up g, up2 q⟩⟩
  have re : ∀ (sg : Int) (kk rest d j : Nat) (A : ats) (r : ou ats), tRE tx n (Tx tx n) sg kk rest d j A r → ∃ m, tRE tx n (TT tx n m) sg kk rest d j A r := fun sg kk rest d j A r g => by
    rcases g with g | ⟨h, g | ⟨j1, a, ⟨e, ⟨m, g⟩, q⟩ | ⟨j2, B, ⟨m, g⟩, ⟨m', q⟩⟩⟩⟩
    · exact ⟨0, Or.inl g⟩
    · exact ⟨0, Or.inr ⟨h, Or.inl g⟩⟩
    · exact ⟨m, Or.inr ⟨h, Or.inr ⟨j1, a, Or.inl ⟨e, g, q⟩⟩⟩⟩
    · exact ⟨max m m', Or.inr ⟨h, Or.inr ⟨j1, a, Or.inr ⟨j2, B, up g, up2 q⟩⟩⟩⟩
  rcases g with ⟨hc, g⟩ | ⟨hc, g⟩ | ⟨hc, g⟩ | ⟨hc, g⟩ | ⟨hc, g⟩ <;> subst hc
  · rcases g with ⟨h, g | ⟨k10, g | ⟨j1, a, ⟨m, g⟩⟩⟩⟩ | g | ⟨h, g | ⟨d10, g | ⟨j1, a, ⟨e, ⟨m, g⟩, q⟩ | ⟨j2, B, ⟨m, g⟩, q⟩⟩⟩⟩
    · exact ⟨1, Or.inl ⟨rfl, Or.inl ⟨h, Or.inl g⟩⟩⟩
    · exact ⟨1, Or.inl ⟨rfl, Or.inl ⟨h, Or.inr ⟨k10, Or.inl g⟩⟩⟩⟩
    · exact ⟨m + 1, Or.inl ⟨rfl, Or.inl ⟨h, Or.inr ⟨k10, Or.inr ⟨j1, a, g⟩⟩⟩⟩⟩
    · exact ⟨1, Or.inl ⟨rfl, Or.inr (Or.inl g)⟩⟩
    · exact ⟨1, Or.inl ⟨rfl, Or.inr (Or.inr ⟨h, Or.inl g⟩)⟩⟩
    · exact ⟨1, Or.inl ⟨rfl, Or.inr (Or.inr ⟨h, Or.inr ⟨d10, Or.inl g⟩⟩)⟩⟩
    · exact ⟨m + 1, Or.inl ⟨rfl, Or.inr (Or.inr ⟨h, Or.inr ⟨d10, Or.inr ⟨j1, a, Or.inl ⟨e, g, q⟩⟩⟩⟩)⟩⟩
    · exact ⟨m + 1, Or.inl ⟨rfl, Or.inr (Or.inr ⟨h, Or.inr ⟨d10, Or.inr ⟨j1, a, Or.inr ⟨j2, B, g, q⟩⟩⟩⟩)⟩⟩
  · obtain ⟨m, g⟩ := li _ _ _ _ _ _ g
    exact ⟨m + 1, Or.inr (Or.inl ⟨rfl, g⟩)⟩
  · obtain ⟨m, g⟩ := re _ _ _ _ _ _ _ g
    exact ⟨m + 1, Or.inr (Or.inr (Or.inl ⟨rfl, g⟩))⟩
  · obtain ⟨m, g⟩ := li _ _ _ _ _ _ g
    exact ⟨m + 1, Or.inr (Or.inr (Or.inr (Or.inl ⟨rfl, g⟩)))⟩
  · obtain ⟨m, g⟩ := re _ _ _ _ _ _ _ g
    exact ⟨m + 1, Or.inr (Or.inr (Or.inr (Or.inr ⟨rfl, g⟩)))⟩
theorem Tx_on {tx : Nat → Int} {n k d j : Nat} {A : ats} {r : ou ats} (g : tON tx n (Tx tx n) k d j A r) : Tx tx n 1 k d j A r := Tx_in (Or.inl ⟨rfl, g⟩)
theorem Tx_al {tx : Nat → Int} {n d j : Nat} {A : ats} {r : ou ats} (g : tLI (Tx tx n) 1 3 d j A r) : Tx tx n 2 0 d j A r := Tx_in (Or.inr (Or.inl ⟨rfl, g⟩))
theorem Tx_ar {tx : Nat → Int} {n d j : Nat} {A : ats} {r : ou ats} (g : tRE tx n (Tx tx n) 38 1 3 d j A r) : Tx tx n 3 0 d j A r := Tx_in (Or.inr (Or.inr (Or.inl ⟨rfl, g⟩)))
theorem Tx_tx {tx : Nat → Int} {n d j : Nat} {A : ats} {r : ou ats} (g : tLI (Tx tx n) 2 5 d j A r) : Tx tx n 4 0 d j A r := Tx_in (Or.inr (Or.inr (Or.inr (Or.inl ⟨rfl, g⟩))))
theorem Tx_tr {tx : Nat → Int} {n d j : Nat} {A : ats} {r : ou ats} (g : tRE tx n (Tx tx n) 124 2 5 d j A r) : Tx tx n 5 0 d j A r := Tx_in (Or.inr (Or.inr (Or.inr (Or.inr ⟨rfl, g⟩))))
