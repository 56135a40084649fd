/-! THE GRAMMAR, with its first fault: what both readers do -/
/-- an outcome: a fault with its place, or a position and a value -/
abbrev ou (α : Type) : Type := (Int × Int) ⊕ (Nat × α)
def dgt (c : Int) : Prop := 48 ≤ c ∧ c ≤ 57
def tok (c : Int) : Prop := dgt c ∨ c = 124 ∨ c = 38 ∨ c = 126 ∨ c = 91 ∨ c = 93 ∨ c = 61 ∨ c = 60 ∨ c = 62 ∨ c = 45 ∨ c = 43 ∨ c = 42 ∨ c = 94 ∨ c = 120 ∨ c = 40 ∨ c = 41
section GR
variable (tx : Nat → Int) (n : Nat)
/-- j is the first place from i on that is no blank -/
def skp (i j : Nat) : Prop := i ≤ j ∧ j ≤ n ∧ (∀ k, i ≤ k → k < j → tx k = 32) ∧ (j < n → tx j ≠ 32)
def nxc (j : Nat) : Int := if j < n then tx j else 0
/-- on to the next sign -/
def adv (i : Nat) (r : ou Unit) : Prop := ∃ j, skp tx n i j ∧ ((r = .inr (j, ()) ∧ (j < n → tok (tx j))) ∨ (r = .inl (1, (j : Int)) ∧ j < n ∧ ¬ tok (tx j)))
/-- t digits from j on have the value v -/
def dgs (j : Nat) : Nat → Int → Prop
  | 0, v => v = 0
  | t + 1, v => ∃ w, dgs j t w ∧ j + t < n ∧ dgt (tx (j + t)) ∧ v = 10 * w + (tx (j + t) - 48)
/-- a number from j on: its value and what comes behind it -/
def nmb (j : Nat) (r : ou Int) : Prop := ∃ t v, t ≤ 6 ∧ 1 ≤ t ∧ dgs tx n j t v ∧ ((t = 6 ∧ j + 6 < n ∧ dgt (tx (j + 6)) ∧ r = .inl (1, ((j + 6 : Nat) : Int))) ∨ (¬ (j + t < n ∧ dgt (tx (j + t))) ∧ ∃ q, adv tx n (j + t) q ∧ r = q.map id (fun z => (z.1, v))))
end GR
/-- polynomials with nine factors, as functions -/
abbrev po : Type := Nat → Int
def poX : po := fun k => if k = 1 then 1 else 0
def poC (v : Int) : po := fun k => if k = 0 then v else 0
def poN (p : po) : po := fun k => - p k
/-- the sum over i < m of p i q (k - i) -/
def cvs (p q : po) (k : Nat) : Nat → Int
  | 0 => 0
  | m + 1 => cvs p q k m + (if m ≤ k then p m * q (k - m) else 0)
def poM (p q : po) : po := fun k => cvs p q k 9
def fin9 (p : po) : Prop := ∀ k, k < 9 → -1000000000 ≤ p k ∧ p k ≤ 1000000000
def ovf (p q : po) : Prop := ∃ i j, i < 9 ∧ j < 9 ∧ p i ≠ 0 ∧ q j ≠ 0 ∧ 9 ≤ i + j
/-- p q if it may stand -/
def mulo (p q : po) (r : Option po) : Prop := (r = none ∧ (ovf p q ∨ ¬ fin9 (poM p q))) ∨ (r = some (poM p q) ∧ ¬ ovf p q ∧ fin9 (poM p q))
/-- p times q, t times over -/
def pows (q : po) : Nat → po → Option po → Prop
  | 0, p, r => r = some p
  | t + 1, p, r => (mulo p q none ∧ r = none) ∨ (∃ m, mulo p q (some m) ∧ pows q t m r)
def sml (p : po) : Prop := (∀ k, k < 9 → 1 ≤ k → p k = 0) ∧ -1 ≤ p 0 ∧ p 0 ≤ 1
/-- p to the power v -/
def powo (p : po) (v : Nat) (r : Option po) : Prop := (v = 0 ∧ r = some (poC 1)) ∨ (v ≠ 0 ∧ ((sml p ∧ pows p (2 - v % 2 - 1) p r) ∨ (¬ sml p ∧ pows p (v - 1) p r)))
def addo (p q : po) (w : Int) (r : Option po) : Prop := (r = none ∧ ¬ fin9 (fun k => p k + w * q k)) ∨ (r = some (fun k => p k + w * q k) ∧ fin9 (fun k => p k + w * q k))
/-- kinds of pieces: 0 a base, 1 a power, 2 a term, 3 the rest of a term behind p, 4 a sum, 5 the rest of a sum behind p -/
abbrev gk : Type := Nat → po → Nat → Nat → ou po → Prop
section GRR
variable (tx : Nat → Int) (n : Nat) (G : gk)
def gBA (d j : Nat) (r : ou po) : Prop :=
  (nxc tx n j = 120 ∧ ∃ q, adv tx n (j + 1) q ∧ r = q.map id (fun z => (z.1, poX))) ∨
  (dgt (nxc tx n j) ∧ ∃ q, nmb tx n j q ∧ r = q.map id (fun z => (z.1, poC z.2))) ∨
  ((nxc tx n j ≠ 120 ∧ nxc tx n j ≠ 40 ∧ ¬ dgt (nxc tx n j)) ∧ r = .inl (2, (j : Int))) ∨
  ((nxc tx n j = 40 ∧ 10 ≤ d) ∧ r = .inl (3, (j : Int))) ∨
  ((nxc tx n j = 40 ∧ d < 10) ∧ ((∃ e, adv tx n (j + 1) (.inl e) ∧ r = .inl e) ∨ ∃ j1, adv tx n (j + 1) (.inr (j1, ())) ∧ ((∃ e, G 4 poX (d + 1) j1 (.inl e) ∧ r = .inl e) ∨ ∃ j2 p, G 4 poX (d + 1) j1 (.inr (j2, p)) ∧ ((nxc tx n j2 ≠ 41 ∧ r = .inl (2, (j2 : Int))) ∨ (nxc tx n j2 = 41 ∧ ∃ q, adv tx n (j2 + 1) q ∧ r = q.map id (fun z => (z.1, p)))))))
def gPW (d j : Nat) (r : ou po) : Prop :=
  (∃ e, G 0 poX d j (.inl e) ∧ r = .inl e) ∨ ∃ j1 p, G 0 poX d j (.inr (j1, p)) ∧ ((nxc tx n j1 ≠ 94 ∧ r = .inr (j1, p)) ∨
  (nxc tx n j1 = 94 ∧ ((∃ e, adv tx n (j1 + 1) (.inl e) ∧ r = .inl e) ∨ ∃ j2, adv tx n (j1 + 1) (.inr (j2, ())) ∧ ((¬ dgt (nxc tx n j2) ∧ r = .inl (2, (j2 : Int))) ∨
  (dgt (nxc tx n j2) ∧ ((∃ e, nmb tx n j2 (.inl e) ∧ r = .inl e) ∨ ∃ (j3 v : Nat), nmb tx n j2 (.inr (j3, (v : Int))) ∧ ((powo p v none ∧ r = .inl (3, (j1 : Int))) ∨ ∃ m, powo p v (some m) ∧ r = .inr (j3, m))))))))
def gTE (d j : Nat) (r : ou po) : Prop := (∃ e, G 1 poX d j (.inl e) ∧ r = .inl e) ∨ ∃ j1 p, G 1 poX d j (.inr (j1, p)) ∧ G 3 p d j1 r
def gTL (p : po) (d j : Nat) (r : ou po) : Prop :=
  (nxc tx n j ≠ 42 ∧ r = .inr (j, p)) ∨ (nxc tx n j = 42 ∧ ((∃ e, adv tx n (j + 1) (.inl e) ∧ r = .inl e) ∨ ∃ j1, adv tx n (j + 1) (.inr (j1, ())) ∧ ((∃ e, G 1 poX d j1 (.inl e) ∧ r = .inl e) ∨ ∃ j2 q, G 1 poX d j1 (.inr (j2, q)) ∧ ((mulo p q none ∧ r = .inl (3, (j : Int))) ∨ ∃ m, mulo p q (some m) ∧ G 3 m d j2 r))))
def gSU (d j : Nat) (r : ou po) : Prop :=
  (nxc tx n j = 45 ∧ ((∃ e, adv tx n (j + 1) (.inl e) ∧ r = .inl e) ∨ ∃ j1, adv tx n (j + 1) (.inr (j1, ())) ∧ ((∃ e, G 2 poX d j1 (.inl e) ∧ r = .inl e) ∨ ∃ j2 p, G 2 poX d j1 (.inr (j2, p)) ∧ G 5 (poN p) d j2 r))) ∨
  (nxc tx n j ≠ 45 ∧ ((∃ e, G 2 poX d j (.inl e) ∧ r = .inl e) ∨ ∃ j2 p, G 2 poX d j (.inr (j2, p)) ∧ G 5 p d j2 r))
def gSL (p : po) (d j : Nat) (r : ou po) : Prop :=
  ((nxc tx n j ≠ 43 ∧ nxc tx n j ≠ 45) ∧ r = .inr (j, p)) ∨ ((nxc tx n j = 43 ∨ nxc tx n j = 45) ∧ ((∃ e, adv tx n (j + 1) (.inl e) ∧ r = .inl e) ∨ ∃ j1, adv tx n (j + 1) (.inr (j1, ())) ∧ ((∃ e, G 2 poX d j1 (.inl e) ∧ r = .inl e) ∨ ∃ j2 q, G 2 poX d j1 (.inr (j2, q)) ∧ ((addo p q (if nxc tx n j = 45 then -1 else 1) none ∧ r = .inl (3, (j : Int))) ∨ ∃ m, addo p q (if nxc tx n j = 45 then -1 else 1) (some m) ∧ G 5 m d j2 r))))
def gALL (c : Nat) (p : po) (d j : Nat) (r : ou po) : Prop :=
  (c = 0 ∧ gBA tx n G d j r) ∨ (c = 1 ∧ gPW tx n G d j r) ∨ (c = 2 ∧ gTE G d j r) ∨ (c = 3 ∧ gTL tx n G p d j r) ∨ (c = 4 ∧ gSU tx n G d j r) ∨ (c = 5 ∧ gSL tx n G p d j r)
end GRR
/-- derived with at most m steps -/
def GG (tx : Nat → Int) (n : Nat) : Nat → gk
  | 0 => fun _ _ _ _ _ => False
  | m + 1 => gALL tx n (GG tx n m)
theorem gALL_mono {tx : Nat → Int} {n : Nat} {G H : gk} (h : ∀ c p d j r, G c p d j r → H c p d j r) {c : Nat} {p : po} {d j : Nat} {r : ou po} (g : gALL tx n G c p d j r) : gALL tx n H c p d j r := by
  revert g
  unfold gALL gBA gPW gTE gTL gSU gSL
  repeat' first | exact id | exact h _ _ _ _ _ | refine Or.imp ?_ ?_ | refine And.imp ?_ ?_ | refine Exists.imp (fun _ => ?_)
theorem GG_mono {tx : Nat → Int} {n : Nat} : ∀ {m m' : Nat}, m ≤ m' → ∀ {c : Nat} {p : po} {d j : Nat} {r : ou po}, GG tx n m c p d j r → GG tx n m' c p d j r
  | 0, _, _, _, _, _, _, _, g => g.elim
  | m + 1, 0, h, _, _, _, _, _, g => absurd h (by omega)
  | m + 1, m' + 1, h, _, _, _, _, _, g => gALL_mono (fun _ _ _ _ _ k => GG_mono (by omega) k) g
def Gx (tx : Nat → Int) (n : Nat) : gk := fun c p d j r => ∃ m, GG tx n m c p d j r
theorem Gx_in {tx : Nat → Int} {n c : Nat} {p : po} {d j : Nat} {r : ou po} (g : gALL tx n (Gx tx n) c p d j r) : Gx tx n c p d j r := by
  have up : ∀ {m m' : Nat} {c : Nat} {p : po} {d j : Nat} {r : ou po}, GG tx n m c p d j r → GG tx n (max m m') c p d j r := fun h => GG_mono (by omega) h
  have up2 : ∀ {m m' : Nat} {c : Nat} {p : po} {d j : Nat} {r : ou po}, GG tx n m' c p d j r → GG tx n (max m m') c p d j r := fun h => GG_mono (by omega) h
  rcases g with ⟨hc, g⟩ | ⟨hc, g⟩ | ⟨hc, g⟩ | ⟨hc, g⟩ | ⟨hc, g⟩ | ⟨hc, g⟩ <;> subst hc
  · rcases g with g | g | g | g | ⟨h, g | ⟨j1, a, ⟨e, ⟨m, g⟩, q⟩ | ⟨j2, p, ⟨m, g⟩, q⟩⟩⟩
    · exact ⟨1, Or.inl ⟨rfl, Or.inl g⟩⟩
    · exact ⟨1, Or.inl ⟨rfl, Or.inr (Or.inl g)⟩⟩
    · exact ⟨1, Or.inl ⟨rfl, Or.inr (Or.inr (Or.inl g))⟩⟩
    · exact ⟨1, Or.inl ⟨rfl, Or.inr (Or.inr (Or.inr (Or.inl g)))⟩⟩
    · exact ⟨1, Or.inl ⟨rfl, Or.inr (Or.inr (Or.inr (Or.inr ⟨h, Or.inl g⟩)))⟩⟩
    · exact ⟨m + 1, Or.inl ⟨rfl, Or.inr (Or.inr (Or.inr (Or.inr ⟨h, Or.inr ⟨j1, a, Or.inl ⟨e, g, q⟩⟩⟩)))⟩⟩
    · exact ⟨m + 1, Or.inl ⟨rfl, Or.inr (Or.inr (Or.inr (Or.inr ⟨h, Or.inr ⟨j1, a, Or.inr ⟨j2, p, g, q⟩⟩⟩)))⟩⟩
  · rcases g with ⟨e, ⟨m, g⟩, q⟩ | ⟨j1, p, ⟨m, g⟩, q⟩
    · exact ⟨m + 1, Or.inr (Or.inl ⟨rfl, Or.inl ⟨e, g, q⟩⟩)⟩
    · exact ⟨m + 1, Or.inr (Or.inl ⟨rfl, Or.inr ⟨j1, p, g, q⟩⟩)⟩
  · rcases g with ⟨e, ⟨m, g⟩, q⟩ | ⟨j1, p, ⟨m, g⟩, ⟨m', q⟩⟩
    · exact ⟨m + 1, Or.inr (Or.inr (Or.inl ⟨rfl, Or.inl ⟨e, g, q⟩⟩))⟩
    · exact ⟨max m m' + 1, Or.inr (Or.inr (Or.inl ⟨rfl, Or.inr ⟨j1, p, up g, up2 q⟩⟩))⟩
  · rcases g with g | ⟨h, g | ⟨j1, a, ⟨e, ⟨m, g⟩, q⟩ | ⟨j2, q, ⟨m, g⟩, w | ⟨mm, w, ⟨m', k⟩⟩⟩⟩⟩
    · exact ⟨1, Or.inr (Or.inr (Or.inr (Or.inl ⟨rfl, Or.inl g⟩)))⟩
    · exact ⟨1, Or.inr (Or.inr (Or.inr (Or.inl ⟨rfl, Or.inr ⟨h, Or.inl g⟩⟩)))⟩
    · exact ⟨m + 1, Or.inr (Or.inr (Or.inr (Or.inl ⟨rfl, Or.inr ⟨h, Or.inr ⟨j1, a, Or.inl ⟨e, g, q⟩⟩⟩⟩)))⟩
    · exact ⟨m + 1, Or.inr (Or.inr (Or.inr (Or.inl ⟨rfl, Or.inr ⟨h, Or.inr ⟨j1, a, Or.inr ⟨j2, q, g, Or.inl w⟩⟩⟩⟩)))⟩
    · exact ⟨max m m' + 1, Or.inr (Or.inr (Or.inr (Or.inl ⟨rfl, Or.inr ⟨h, Or.inr ⟨j1, a, Or.inr ⟨j2, q, up g, Or.inr ⟨mm, w, up2 k⟩⟩⟩⟩⟩)))⟩
  · rcases g with ⟨h, g | ⟨j1, a, ⟨e, ⟨m, g⟩, q⟩ | ⟨j2, p, ⟨m, g⟩, ⟨m', k⟩⟩⟩⟩ | ⟨h, ⟨e, ⟨m, g⟩, q⟩ | ⟨j2, p, ⟨m, g⟩, ⟨m', k⟩⟩⟩
    · exact ⟨1, Or.inr (Or.inr (Or.inr (Or.inr (Or.inl ⟨rfl, Or.inl ⟨h, Or.inl g⟩⟩))))⟩
    · exact ⟨m + 1, Or.inr (Or.inr (Or.inr (Or.inr (Or.inl ⟨rfl, Or.inl ⟨h, Or.inr ⟨j1, a, Or.inl ⟨e, g, q⟩⟩⟩⟩))))⟩
    · exact ⟨max m m' + 1, Or.inr (Or.inr (Or.inr (Or.inr (Or.inl ⟨rfl, Or.inl ⟨h, Or.inr ⟨j1, a, Or.inr ⟨j2, p, up g, up2 k⟩⟩⟩⟩))))⟩
    · exact ⟨m + 1, Or.inr (Or.inr (Or.inr (Or.inr (Or.inl ⟨rfl, Or.inr ⟨h, Or.inl ⟨e, g, q⟩⟩⟩))))⟩
    · exact ⟨max m m' + 1, Or.inr (Or.inr (Or.inr (Or.inr (Or.inl ⟨rfl, Or.inr ⟨h, Or.inr ⟨j2, p, up g, up2 k⟩⟩⟩))))⟩
  · rcases g with g | ⟨h, g | ⟨j1, a, ⟨e, ⟨m, g⟩, q⟩ | ⟨j2, q, ⟨m, g⟩, w | ⟨mm, w, ⟨m', k⟩⟩⟩⟩⟩
    · exact ⟨1, Or.inr (Or.inr (Or.inr (Or.inr (Or.inr ⟨rfl, Or.inl g⟩))))⟩
    · exact ⟨1, Or.inr (Or.inr (Or.inr (Or.inr (Or.inr ⟨rfl, Or.inr ⟨h, Or.inl g⟩⟩))))⟩
    · exact ⟨m + 1, Or.inr (Or.inr (Or.inr (Or.inr (Or.inr ⟨rfl, Or.inr ⟨h, Or.inr ⟨j1, a, Or.inl ⟨e, g, q⟩⟩⟩⟩))))⟩
    · exact ⟨m + 1, Or.inr (Or.inr (Or.inr (Or.inr (Or.inr ⟨rfl, Or.inr ⟨h, Or.inr ⟨j1, a, Or.inr ⟨j2, q, g, Or.inl w⟩⟩⟩⟩))))⟩
    · exact ⟨max m m' + 1, Or.inr (Or.inr (Or.inr (Or.inr (Or.inr ⟨rfl, Or.inr ⟨h, Or.inr ⟨j1, a, Or.inr ⟨j2, q, up g, Or.inr ⟨mm, w, up2 k⟩⟩⟩⟩⟩))))⟩
theorem Gx_ba {tx : Nat → Int} {n d j : Nat} {r : ou po} (g : gBA tx n (Gx tx n) d j r) : Gx tx n 0 poX d j r := Gx_in (Or.inl ⟨rfl, g⟩)
theorem Gx_pw {tx : Nat → Int} {n d j : Nat} {r : ou po} (g : gPW tx n (Gx tx n) d j r) : Gx tx n 1 poX d j r := Gx_in (Or.inr (Or.inl ⟨rfl, g⟩))
theorem Gx_te {tx : Nat → Int} {n d j : Nat} {r : ou po} (g : gTE (Gx tx n) d j r) : Gx tx n 2 poX d j r := Gx_in (Or.inr (Or.inr (Or.inl ⟨rfl, g⟩)))
theorem Gx_tl {tx : Nat → Int} {n d j : Nat} {p : po} {r : ou po} (g : gTL tx n (Gx tx n) p d j r) : Gx tx n 3 p d j r := Gx_in (Or.inr (Or.inr (Or.inr (Or.inl ⟨rfl, g⟩))))
theorem Gx_su {tx : Nat → Int} {n d j : Nat} {r : ou po} (g : gSU tx n (Gx tx n) d j r) : Gx tx n 4 poX d j r := Gx_in (Or.inr (Or.inr (Or.inr (Or.inr (Or.inl ⟨rfl, g⟩)))))
theorem Gx_sl {tx : Nat → Int} {n d j : Nat} {p : po} {r : ou po} (g : gSL tx n (Gx tx n) p d j r) : Gx tx n 5 p d j r := Gx_in (Or.inr (Or.inr (Or.inr (Or.inr (Or.inr ⟨rfl, g⟩)))))
