/-! THE TEXT WITH ITS PROGRAM: the atoms and the program that were read so far -/
abbrev atz : Type := ats × List Int
abbrev tz9 : Type := Nat → Nat → Nat → Nat → atz → ou atz → Prop
def psh (c : Int) (B : atz) : atz := (B.1, B.2 ++ [c])
/-- behind a piece with k signs ~ -/
def ntk (k : Nat) (B : atz) : atz := if k % 2 = 1 then psh 10 B else B
section ZGR
variable (tx : Nat → Int) (n : Nat) (H : tz9)
def zAT (j : Nat) (A : atz) (r : ou atz) : Prop := ∃ r0 : ou ats, tAT tx n j A.1 r0 ∧ r = r0.map id (fun z => (z.1, (z.2, A.2 ++ [(A.1.length : Int)])))
/-- a piece behind k signs ~ -/
def zON (k d j : Nat) (A : atz) (r : ou atz) : Prop :=
  (nxc tx n j = 126 ∧ ((10 ≤ k ∧ r = .inl (3, (j : Int))) ∨ (k < 10 ∧ ((∃ e, adv tx n (j + 1) (.inl e) ∧ r = .inl e) ∨ ∃ j1, adv tx n (j + 1) (.inr (j1, ())) ∧ H 1 (k + 1) d j1 A r)))) ∨
  (nxc tx n j ≠ 126 ∧ nxc tx n j ≠ 91 ∧ ∃ r0, zAT tx n j A r0 ∧ r = r0.map id (fun z => (z.1, ntk k z.2))) ∨
  (nxc tx n j = 91 ∧ ((10 ≤ d ∧ r = .inl (3, (j : Int))) ∨ (d < 10 ∧ ((∃ e, adv tx n (j + 1) (.inl e) ∧ r = .inl e) ∨ ∃ j1, adv tx n (j + 1) (.inr (j1, ())) ∧
  ((∃ e, H 4 0 (d + 1) j1 A (.inl e) ∧ r = .inl e) ∨ ∃ j2 B, H 4 0 (d + 1) j1 A (.inr (j2, B)) ∧ ((nxc tx n j2 ≠ 93 ∧ r = .inl (2, (j2 : Int))) ∨ (nxc tx n j2 = 93 ∧ ∃ q, adv tx n (j2 + 1) q ∧ r = q.map id (fun z => (z.1, ntk k B)))))))))
def zLI (k rest d j : Nat) (A : atz) (r : ou atz) : Prop := (∃ e, H k 0 d j A (.inl e) ∧ r = .inl e) ∨ ∃ j1 B, H k 0 d j A (.inr (j1, B)) ∧ H rest 0 d j1 B r
def zRE (sg op : Int) (k rest d j : Nat) (A : atz) (r : ou atz) : Prop :=
  (nxc tx n j ≠ sg ∧ r = .inr (j, A)) ∨ (nxc tx n j = sg ∧ ((∃ e, adv tx n (j + 1) (.inl e) ∧ r = .inl e) ∨ ∃ j1, adv tx n (j + 1) (.inr (j1, ())) ∧ ((∃ e, H k 0 d j1 A (.inl e) ∧ r = .inl e) ∨ ∃ j2 B, H k 0 d j1 A (.inr (j2, B)) ∧ H rest 0 d j2 (psh op B) r)))
def zALL (c k d j : Nat) (A : atz) (r : ou atz) : Prop :=
  (c = 1 ∧ zON tx n H k d j A r) ∨ (c = 2 ∧ zLI H 1 3 d j A r) ∨ (c = 3 ∧ zRE tx n H 38 11 1 3 d j A r) ∨ (c = 4 ∧ zLI H 2 5 d j A r) ∨ (c = 5 ∧ zRE tx n H 124 12 2 5 d j A r)
end ZGR
def TZ (tx : Nat → Int) (n : Nat) : Nat → tz9
  | 0 => fun _ _ _ _ _ _ => False
  | m + 1 => zALL tx n (TZ tx n m)
theorem zALL_mono {tx : Nat → Int} {n : Nat} {G H : tz9} (h : ∀ c k d j A r, G c k d j A r → H c k d j A r) {c k d j : Nat} {A : atz} {r : ou atz} (g : zALL tx n G c k d j A r) : zALL tx n H c k d j A r := by
  revert g
  unfold zALL zON zLI zRE
  repeat' first | exact id | exact h _ _ _ _ _ _ | refine Or.imp ?_ ?_ | refine And.imp ?_ ?_ | refine Exists.imp (fun _ => ?_)
theorem TZ_mono {tx : Nat → Int} {n : Nat} : ∀ {m m' : Nat}, m ≤ m' → ∀ {c k d j : Nat} {A : atz} {r : ou atz}, TZ tx n m c k d j A r → TZ tx n m' c k d j A r
  | 0, _, _, _, _, _, _, _, _, g => g.elim
  | m + 1, 0, h, _, _, _, _, _, _, g => absurd h (by omega)
  | m + 1, m' + 1, h, _, _, _, _, _, _, g => zALL_mono (fun _ _ _ _ _ _ k => TZ_mono (by omega) k) g
def Tz (tx : Nat → Int) (n : Nat) : tz9 := fun c k d j A r => ∃ m, TZ tx n m c k d j A r
theorem Tz_in {tx : Nat → Int} {n c k d j : Nat} {A : atz} {r : ou atz} (g : zALL tx n (Tz tx n) c k d j A r) : Tz tx n c k d j A r := by
  have up : ∀ {m m' : Nat} {c k d j : Nat} {A : atz} {r : ou atz}, TZ tx n m c k d j A r → TZ tx n (max m m') c k d j A r := fun h => TZ_mono (by omega) h
  have up2 : ∀ {m m' : Nat} {c k d j : Nat} {A : atz} {r : ou atz}, TZ tx n m' c k d j A r → TZ tx n (max m m') c k d j A r := fun h => TZ_mono (by omega) h
  have li : ∀ (kk rest d j : Nat) (A : atz) (r : ou atz), zLI (Tz tx n) kk rest d j A r → ∃ m, zLI (TZ tx n m) kk rest d j A r := fun kk rest d j A r g => by
    rcases g with ⟨e, ⟨m, g⟩, q⟩ | ⟨j1, B, ⟨m, g⟩, ⟨m', q⟩⟩
    · exact ⟨m, Or.inl ⟨e, g, q⟩⟩
    · exact ⟨max m m', Or.inr ⟨j1, B, up g, up2 q⟩⟩
  have re : ∀ (sg op : Int) (kk rest d j : Nat) (A : atz) (r : ou atz), zRE tx n (Tz tx n) sg op kk rest d j A r → ∃ m, zRE tx n (TZ tx n m) sg op kk rest d j A r := fun sg op kk rest d j A r g => by
    rcases g with g | ⟨h, g | ⟨j1, a, ⟨e, ⟨m, g⟩, q⟩ | ⟨j2, B, ⟨m, g⟩, ⟨m', q⟩⟩⟩⟩
    · exact ⟨0, Or.inl g⟩
    · exact ⟨0, Or.inr ⟨h, Or.inl g⟩⟩
    · exact ⟨m, Or.inr ⟨h, Or.inr ⟨j1, a, Or.inl ⟨e, g, q⟩⟩⟩⟩
    · exact ⟨max m m', Or.inr ⟨h, Or.inr ⟨j1, a, Or.inr ⟨j2, B, up g, up2 q⟩⟩⟩⟩
  rcases g with ⟨hc, g⟩ | ⟨hc, g⟩ | ⟨hc, g⟩ | ⟨hc, g⟩ | ⟨hc, g⟩ <;> subst hc
  · rcases g with ⟨h, g | ⟨k10, g | ⟨j1, a, ⟨m, g⟩⟩⟩⟩ | g | ⟨h, g | ⟨d10, g | ⟨j1, a, ⟨e, ⟨m, g⟩, q⟩ | ⟨j2, B, ⟨m, g⟩, q⟩⟩⟩⟩
    · exact ⟨1, Or.inl ⟨rfl, Or.inl ⟨h, Or.inl g⟩⟩⟩
    · exact ⟨1, Or.inl ⟨rfl, Or.inl ⟨h, Or.inr ⟨k10, Or.inl g⟩⟩⟩⟩
    · exact ⟨m + 1, Or.inl ⟨rfl, Or.inl ⟨h, Or.inr ⟨k10, Or.inr ⟨j1, a, g⟩⟩⟩⟩⟩
    · exact ⟨1, Or.inl ⟨rfl, Or.inr (Or.inl g)⟩⟩
    · exact ⟨1, Or.inl ⟨rfl, Or.inr (Or.inr ⟨h, Or.inl g⟩)⟩⟩
    · exact ⟨1, Or.inl ⟨rfl, Or.inr (Or.inr ⟨h, Or.inr ⟨d10, Or.inl g⟩⟩)⟩⟩
    · exact ⟨m + 1, Or.inl ⟨rfl, Or.inr (Or.inr ⟨h, Or.inr ⟨d10, Or.inr ⟨j1, a, Or.inl ⟨e, g, q⟩⟩⟩⟩)⟩⟩
    · exact ⟨m + 1, Or.inl ⟨rfl, Or.inr (Or.inr ⟨h, Or.inr ⟨d10, Or.inr ⟨j1, a, Or.inr ⟨j2, B, g, q⟩⟩⟩⟩)⟩⟩
  · obtain ⟨m, g⟩ := li _ _ _ _ _ _ g
    exact ⟨m + 1, Or.inr (Or.inl ⟨rfl, g⟩)⟩
  · obtain ⟨m, g⟩ := re _ _ _ _ _ _ _ _ g
    exact ⟨m + 1, Or.inr (Or.inr (Or.inl ⟨rfl, g⟩))⟩
  · obtain ⟨m, g⟩ := li _ _ _ _ _ _ g
    exact ⟨m + 1, Or.inr (Or.inr (Or.inr (Or.inl ⟨rfl, g⟩)))⟩
  · obtain ⟨m, g⟩ := re _ _ _ _ _ _ _ _ g
    exact ⟨m + 1, Or.inr (Or.inr (Or.inr (Or.inr ⟨rfl, g⟩)))⟩
theorem Tz_on {tx : Nat → Int} {n k d j : Nat} {A : atz} {r : ou atz} (g : zON tx n (Tz tx n) k d j A r) : Tz tx n 1 k d j A r := Tz_in (Or.inl ⟨rfl, g⟩)
theorem Tz_al {tx : Nat → Int} {n d j : Nat} {A : atz} {r : ou atz} (g : zLI (Tz tx n) 1 3 d j A r) : Tz tx n 2 0 d j A r := Tz_in (Or.inr (Or.inl ⟨rfl, g⟩))
theorem Tz_ar {tx : Nat → Int} {n d j : Nat} {A : atz} {r : ou atz} (g : zRE tx n (Tz tx n) 38 11 1 3 d j A r) : Tz tx n 3 0 d j A r := Tz_in (Or.inr (Or.inr (Or.inl ⟨rfl, g⟩)))
theorem Tz_tx {tx : Nat → Int} {n d j : Nat} {A : atz} {r : ou atz} (g : zLI (Tz tx n) 2 5 d j A r) : Tz tx n 4 0 d j A r := Tz_in (Or.inr (Or.inr (Or.inr (Or.inl ⟨rfl, g⟩))))
theorem Tz_tr {tx : Nat → Int} {n d j : Nat} {A : atz} {r : ou atz} (g : zRE tx n (Tz tx n) 124 12 2 5 d j A r) : Tz tx n 5 0 d j A r := Tz_in (Or.inr (Or.inr (Or.inr (Or.inr ⟨rfl, g⟩))))
theorem Tz_out {tx : Nat → Int} {n c k d j : Nat} {A : atz} {r : ou atz} (g : Tz tx n c k d j A r) : zALL tx n (Tz tx n) c k d j A r := by
  obtain ⟨m, g⟩ := g
  cases m with
  | zero => exact g.elim
  | succ m => exact zALL_mono (fun _ _ _ _ _ _ k => ⟨m, k⟩) g
theorem Tz_1 {tx : Nat → Int} {n k d j : Nat} {A : atz} {r : ou atz} (g : Tz tx n 1 k d j A r) : zON tx n (Tz tx n) k d j A r := by
  rcases Tz_out g with ⟨_, h⟩ | ⟨e, _⟩ | ⟨e, _⟩ | ⟨e, _⟩ | ⟨e, _⟩ <;> first | exact h | exact absurd e (by decide)
theorem Tz_2 {tx : Nat → Int} {n k d j : Nat} {A : atz} {r : ou atz} (g : Tz tx n 2 k d j A r) : zLI (Tz tx n) 1 3 d j A r := by
  rcases Tz_out g with ⟨e, _⟩ | ⟨_, h⟩ | ⟨e, _⟩ | ⟨e, _⟩ | ⟨e, _⟩ <;> first | exact h | exact absurd e (by decide)
theorem Tz_3 {tx : Nat → Int} {n k d j : Nat} {A : atz} {r : ou atz} (g : Tz tx n 3 k d j A r) : zRE tx n (Tz tx n) 38 11 1 3 d j A r := by
  rcases Tz_out g with ⟨e, _⟩ | ⟨e, _⟩ | ⟨_, h⟩ | ⟨e, _⟩ | ⟨e, _⟩ <;> first | exact h | exact absurd e (by decide)
theorem Tz_4 {tx : Nat → Int} {n k d j : Nat} {A : atz} {r : ou atz} (g : Tz tx n 4 k d j A r) : zLI (Tz tx n) 2 5 d j A r := by
  rcases Tz_out g with ⟨e, _⟩ | ⟨e, _⟩ | ⟨e, _⟩ | ⟨_, h⟩ | ⟨e, _⟩ <;> first | exact h | exact absurd e (by decide)
theorem Tz_5 {tx : Nat → Int} {n k d j : Nat} {A : atz} {r : ou atz} (g : Tz tx n 5 k d j A r) : zRE tx n (Tz tx n) 124 12 2 5 d j A r := by
  rcases Tz_out g with ⟨e, _⟩ | ⟨e, _⟩ | ⟨e, _⟩ | ⟨e, _⟩ | ⟨_, h⟩ <;> first | exact h | exact absurd e (by decide)
/-- what a program is: as many atoms' codes as atoms, each of its codes known -/
def cnz (l : List Int) : Nat := (l.filter (fun c => decide (c < 10))).length
def ZW (B : atz) : Prop := cnz B.2 = B.1.length ∧ ∀ c, c ∈ B.2 → 0 ≤ c ∧ c ≤ 12 ∧ (c < 10 → c < (B.1.length : Int))
theorem cnz_a (l : List Int) (c : Int) : cnz (l ++ [c]) = cnz l + (if c < 10 then 1 else 0) := by
  unfold cnz
  rw [List.filter_append, List.length_append]
  by_cases q : c < 10
  · rw [if_pos q]; simp [q]
  · rw [if_neg q]; simp [q]
theorem ZW_psh {c : Int} {B : atz} (h : ZW B) (h1 : 10 ≤ c) (h2 : c ≤ 12) : ZW (psh c B) := by
  obtain ⟨a, b⟩ := h
  refine ⟨?_, fun x hx => ?_⟩
  · show cnz (B.2 ++ [c]) = B.1.length
    rw [cnz_a, if_neg (by omega)]; exact a
  · rcases List.mem_append.1 (show x ∈ B.2 ++ [c] from hx) with q | q
    · exact b x q
    · rw [List.mem_singleton.1 q]
      exact ⟨by omega, h2, fun z => by omega⟩
theorem ZW_ntk {k : Nat} {B : atz} (h : ZW B) : ZW (ntk k B) := by
  unfold ntk
  split
  · exact ZW_psh h (by decide) (by decide)
  · exact h
theorem tAT_len {tx : Nat → Int} {n j j' : Nat} {A B : ats} (h : tAT tx n j A (.inr (j', B))) : B.length = A.length + 1 := by
  rcases h with ⟨e, _, q⟩ | ⟨j1, p, _, ⟨_, q⟩ | ⟨_, ⟨_, q⟩ | ⟨_, ⟨e, _, q⟩ | ⟨j2, _, ⟨e, _, q⟩ | ⟨j3, q', _, ⟨_, q⟩ | ⟨m, _, q⟩⟩⟩⟩⟩⟩
  · cases q
  · cases q
  · cases q
  · cases q
  · cases q
  · cases q
  · cases q
    rw [List.length_append]; rfl
theorem zAT_i {tx : Nat → Int} {n j j' : Nat} {A B : atz} (h : zAT tx n j A (.inr (j', B))) : tAT tx n j A.1 (.inr (j', B.1)) ∧ B.2 = A.2 ++ [(A.1.length : Int)] := by
  obtain ⟨r0, g, e⟩ := h
  cases r0 with
  | inl x => cases e
  | inr z =>
    obtain ⟨j1, B1⟩ := z
    cases e
    exact ⟨g, rfl⟩
theorem ZW_at {tx : Nat → Int} {n j j' : Nat} {A B : atz} (h : ZW A) (g : zAT tx n j A (.inr (j', B))) (h10 : A.1.length < 10) : ZW B := by
  obtain ⟨a, b⟩ := zAT_i g
  have l := tAT_len a
  refine ⟨?_, fun x hx => ?_⟩
  · rw [b, cnz_a, if_pos (by omega), h.1, l]
  · rw [b] at hx
    rcases List.mem_append.1 hx with q | q
    · have := h.2 x q
      omega
    · rw [List.mem_singleton.1 q]
      omega
theorem tAT_10 {tx : Nat → Int} {n j j' : Nat} {A B : ats} (h : tAT tx n j A (.inr (j', B))) : A.length < 10 := by
  rcases h with ⟨e, _, q⟩ | ⟨j1, p, _, ⟨_, q⟩ | ⟨_, ⟨_, q⟩ | ⟨a, _⟩⟩⟩
  · cases q
  · cases q
  · cases q
  · exact a
/-- lengths: what a piece of text at depth d adds -/
def zlg (c d : Nat) (A B : atz) : Prop := ∃ D : Nat, B.1.length = A.1.length + D ∧ ((c = 1 ∨ c = 2 ∨ c = 4) → 1 ≤ D ∧ B.2.length + 1 ≤ A.2.length + (13 - d) * D) ∧ B.2.length ≤ A.2.length + (13 - d) * D
theorem ntk_1 (k : Nat) (B : atz) : (ntk k B).1 = B.1 ∧ (ntk k B).2.length ≤ B.2.length + 1 := by
  unfold ntk psh
  split
  · exact ⟨rfl, by show (B.2 ++ [(10 : Int)]).length ≤ _; rw [List.length_append]; exact Nat.le_refl _⟩
  · exact ⟨rfl, by omega⟩
theorem zlg_tr {c c' d : Nat} {A B C : atz} (h : zlg c d A B) (h' : zlg c' d B C) (hc : c = 1 ∨ c = 2 ∨ c = 4) (c2 : Nat) : zlg c2 d A C := by
  obtain ⟨D, a1, a2, a3⟩ := h
  obtain ⟨E, b1, b2, b3⟩ := h'
  obtain ⟨a4, a5⟩ := a2 hc
  have e : (13 - d) * (D + E) = (13 - d) * D + (13 - d) * E := Nat.mul_add _ _ _
  exact ⟨D + E, by omega, fun _ => ⟨by omega, by omega⟩, by omega⟩
/-- a piece with its sign behind it -/
theorem zlg_psh {c d : Nat} {A B : atz} {op : Int} (h : zlg c d A B) (hc : c = 1 ∨ c = 2 ∨ c = 4) : zlg 3 d A (psh op B) := by
  obtain ⟨D, a1, a2, a3⟩ := h
  obtain ⟨a4, a5⟩ := a2 hc
  have e : (psh op B).2.length = B.2.length + 1 := by show (B.2 ++ [op]).length = _; rw [List.length_append]; rfl
  exact ⟨D, a1, fun q => by omega, by omega⟩
theorem zlg_tr3 {d c' : Nat} {A B C : atz} (h : zlg 3 d A B) (h' : zlg c' d B C) (c2 : Nat) (hc2 : c2 = 3 ∨ c2 = 5) : zlg c2 d A C := by
  obtain ⟨D, a1, a2, a3⟩ := h
  obtain ⟨E, b1, b2, b3⟩ := h'
  have e : (13 - d) * (D + E) = (13 - d) * D + (13 - d) * E := Nat.mul_add _ _ _
  exact ⟨D + E, by omega, fun q => by omega, by omega⟩
theorem TZ_ok {tx : Nat → Int} {n : Nat} : ∀ (m : Nat) {c k d j j' : Nat} {A B : atz}, d ≤ 10 → TZ tx n m c k d j A (.inr (j', B)) → (ZW A → ZW B) ∧ zlg c d A B
  | 0, _, _, _, _, _, _, _, _, g => g.elim
  | m + 1, c, k, d, j, j', A, B, hd, g => by
    have ih := fun {c k d j j' : Nat} {A B : atz} (hd : d ≤ 10) (g : TZ tx n m c k d j A (.inr (j', B))) => TZ_ok (tx := tx) (n := n) m hd g
    have li : ∀ kk rest, (kk = 1 ∨ kk = 2) → zLI (TZ tx n m) kk rest d j A (.inr (j', B)) → (ZW A → ZW B) ∧ ∀ c2, zlg c2 d A B := fun kk rest hk g => by
      rcases g with ⟨e, _, q⟩ | ⟨j1, C, g1, g2⟩
      · cases q
      · obtain ⟨x1, x2⟩ := ih hd g1
        obtain ⟨y1, y2⟩ := ih hd g2
        exact ⟨fun z => y1 (x1 z), fun c2 => zlg_tr x2 y2 (by omega) c2⟩
    have re : ∀ sg op kk rest, (kk = 1 ∨ kk = 2) → (10 ≤ op ∧ op ≤ 12) → zRE tx n (TZ tx n m) sg op kk rest d j A (.inr (j', B)) → (ZW A → ZW B) ∧ ∀ c2, (c2 = 3 ∨ c2 = 5) → zlg c2 d A B := fun sg op kk rest hk ho g => by
      rcases g with ⟨_, q⟩ | ⟨_, ⟨e, _, q⟩ | ⟨j1, _, ⟨e, _, q⟩ | ⟨j2, C, g1, g2⟩⟩⟩
      · cases q
        exact ⟨fun z => z, fun c2 h2 => ⟨0, by omega, fun q => by omega, by omega⟩⟩
      · cases q
      · cases q
      · obtain ⟨x1, x2⟩ := ih hd g1
        obtain ⟨y1, y2⟩ := ih hd g2
        exact ⟨fun z => y1 (ZW_psh (x1 z) ho.1 ho.2), fun c2 h2 => zlg_tr3 (zlg_psh x2 (by omega)) y2 c2 h2⟩
    have gg : zALL tx n (TZ tx n m) c k d j A (.inr (j', B)) := g
    clear g
    rcases gg with ⟨hc, g⟩ | ⟨hc, g⟩ | ⟨hc, g⟩ | ⟨hc, g⟩ | ⟨hc, g⟩ <;> subst hc
    · rcases g with ⟨_, ⟨_, q⟩ | ⟨_, ⟨e, _, q⟩ | ⟨j1, _, g⟩⟩⟩ | ⟨_, _, r0, g, q⟩ | ⟨_, ⟨_, q⟩ | ⟨d10, ⟨e, _, q⟩ | ⟨j1, _, ⟨e, _, q⟩ | ⟨j2, C, g, ⟨_, q⟩ | ⟨_, q', _, q⟩⟩⟩⟩⟩
      · cases q
      · cases q
      · exact ih hd g
      · cases r0 with
        | inl x => cases q
        | inr z =>
          obtain ⟨j1, C⟩ := z
          have e : B = ntk k C := by cases q; rfl
          obtain ⟨a, b⟩ := zAT_i g
          have l := tAT_len a
          have n1 := ntk_1 k C
          subst e
          refine ⟨fun z => ZW_ntk (ZW_at z g (tAT_10 a)), 1, by rw [n1.1, l], ?_⟩
          have lc : C.2.length = A.2.length + 1 := by rw [b, List.length_append]; rfl
          have := n1.2
          have h3 : 3 ≤ 13 - d := by omega
          rw [Nat.mul_one]
          exact ⟨fun _ => ⟨by omega, by omega⟩, by omega⟩
      · cases q
      · cases q
      · cases q
      · cases q
      · cases q' with
        | inl x => cases q
        | inr z =>
          obtain ⟨j3, u⟩ := z
          have e : B = ntk k C := by cases q; rfl
          subst e
          obtain ⟨x1, D, y1, y2, y3⟩ := ih (show d + 1 ≤ 10 by omega) g
          obtain ⟨y4, y5⟩ := y2 (by omega)
          have n1 := ntk_1 k C
          have n2 := n1.2
          have e2 : (13 - d) * D = (13 - (d + 1)) * D + D := by
            rw [show 13 - d = (13 - (d + 1)) + 1 by omega, Nat.add_mul, Nat.one_mul]
          exact ⟨fun z => ZW_ntk (x1 z), D, by rw [n1.1, y1], fun _ => ⟨y4, by omega⟩, by omega⟩
    · obtain ⟨x, y⟩ := li 1 3 (Or.inl rfl) g
      exact ⟨x, y 2⟩
    · obtain ⟨x, y⟩ := re 38 11 1 3 (Or.inl rfl) ⟨by decide, by decide⟩ g
      exact ⟨x, y 3 (Or.inl rfl)⟩
    · obtain ⟨x, y⟩ := li 2 5 (Or.inr rfl) g
      exact ⟨x, y 4⟩
    · obtain ⟨x, y⟩ := re 124 12 2 5 (Or.inr rfl) ⟨by decide, by decide⟩ g
      exact ⟨x, y 5 (Or.inr rfl)⟩
theorem Tz_ok {tx : Nat → Int} {n c k d j j' : Nat} {A B : atz} (hd : d ≤ 10) (g : Tz tx n c k d j A (.inr (j', B))) : (ZW A → ZW B) ∧ zlg c d A B := by
  obtain ⟨m, g⟩ := g
  exact TZ_ok m hd g
