/-! THE WORDS AND THE CLASSES: what the machine's instructions need of the tables -/
def rm_tb : List Cond := lw_tbl.filter goodWord
theorem rm_tb_of {w : Cond} (i : Nat) (h : lw_tbl[i]? = some w) (g : goodWord w = true) : w ∈ rm_tb := List.mem_filter.mpr ⟨List.mem_of_getElem? h, g⟩
theorem rm_tb_good : ∀ w ∈ rm_tb, goodWord w = true := fun _ h => (List.mem_filter.mp h).2
theorem rm_tb_in : ∀ w ∈ rm_tb, w ∈ lw_tbl := fun _ h => (List.mem_filter.mp h).1
def rm_isNest : Cond → Bool
  | .fieldLinkNest .. => true
  | _ => false
def rm_nest : List Cond := lw_tbl.filter rm_isNest
theorem rm_nest_of {w : Cond} (i : Nat) (h : lw_tbl[i]? = some w) (g : rm_isNest w = true) : w ∈ rm_nest := List.mem_filter.mpr ⟨List.mem_of_getElem? h, g⟩
theorem rm_nest_warm {w : Cond} (hw : w ∈ rm_nest) {s U : State} (hW : s.WarmedH U.vm) (h : va_Nw w s) : va_Nw w U := by
  have g := (List.mem_filter.mp hw).2
  cases w <;> first | exact va_Nw.warmF hW h | cases g
theorem rm_nest_same {w : Cond} (hw : w ∈ rm_nest) {u U : State} (e : u.vm = U.vm) (h : va_Nw w u) : va_Nw w U := by
  have g := (List.mem_filter.mp hw).2
  cases w <;> first | exact va_Nw.same rfl e h | cases g
def rm_ft (ci : Nat) : Nat → FieldType := match ci with
  | 0 => tyX0
  | 1 => tyX1
  | 2 => tyX2
  | 3 => tyX3
  | 4 => tyX4
  | 5 => tyX5
  | 6 => tyX6
  | 7 => tyX7
  | 8 => tyX8
  | 9 => tyX9
  | _ => tyX10
/-- a class of the list: its words are there, its fields' types are these, their names differ, they are its own, it can be made -/
def rm_okC (ci : Nat) (q : vw_C) : Prop := (∀ w ∈ u_ws q.1 q.2.1 q.2.2, w ∈ rm_tb) ∧ (∀ k, k < q.2.2 → parseFieldDescriptor (q.2.1 k).2.2.1 = some (rm_ft ci k)) ∧ (∀ a, a < q.2.2 → ∀ b, b < q.2.2 → a ≠ b → (q.2.1 a).2.1 ≠ (q.2.1 b).2.1) ∧ (∀ k, k < q.2.2 → (q.2.1 k).1 = q.1) ∧ Cond.instantiable q.1 q.2.2 ∈ rm_tb ∧ Cond.initialized q.1 ∈ rm_tb
set_option maxRecDepth 100000 in
theorem rm_okC_0 : rm_okC 0 (RX0, TX0, 8) := ⟨by decide +kernel, tyX0_ok, nmX0, by decide +kernel, by decide +kernel, by decide +kernel⟩
set_option maxRecDepth 100000 in
theorem rm_okC_1 : rm_okC 1 (RX1, TX1, 3) := ⟨by decide +kernel, tyX1_ok, nmX1, by decide +kernel, by decide +kernel, by decide +kernel⟩
set_option maxRecDepth 100000 in
theorem rm_okC_2 : rm_okC 2 (RX2, TX2, 8) := ⟨by decide +kernel, tyX2_ok, nmX2, by decide +kernel, by decide +kernel, by decide +kernel⟩
set_option maxRecDepth 100000 in
theorem rm_okC_3 : rm_okC 3 (RX3, TX3, 17) := ⟨by decide +kernel, tyX3_ok, nmX3, by decide +kernel, by decide +kernel, by decide +kernel⟩
set_option maxRecDepth 100000 in
theorem rm_okC_4 : rm_okC 4 (RX4, TX4, 13) := ⟨by decide +kernel, tyX4_ok, nmX4, by decide +kernel, by decide +kernel, by decide +kernel⟩
set_option maxRecDepth 100000 in
theorem rm_okC_5 : rm_okC 5 (RX5, TX5, 6) := ⟨by decide +kernel, tyX5_ok, nmX5, by decide +kernel, by decide +kernel, by decide +kernel⟩
set_option maxRecDepth 100000 in
theorem rm_okC_6 : rm_okC 6 (RX6, TX6, 2) := ⟨by decide +kernel, tyX6_ok, nmX6, by decide +kernel, by decide +kernel, by decide +kernel⟩
set_option maxRecDepth 100000 in
theorem rm_okC_7 : rm_okC 7 (RX7, TX7, 14) := ⟨by decide +kernel, tyX7_ok, nmX7, by decide +kernel, by decide +kernel, by decide +kernel⟩
set_option maxRecDepth 100000 in
theorem rm_okC_8 : rm_okC 8 (RX8, TX8, 10) := ⟨by decide +kernel, tyX8_ok, nmX8, by decide +kernel, by decide +kernel, by decide +kernel⟩
set_option maxRecDepth 100000 in
theorem rm_okC_9 : rm_okC 9 (RX9, TX9, 8) := ⟨by decide +kernel, tyX9_ok, nmX9, by decide +kernel, by decide +kernel, by decide +kernel⟩
set_option maxRecDepth 100000 in
theorem rm_okC_10 : rm_okC 10 (RX10, TX10, 55) := ⟨by decide +kernel, tyX10_ok, nmX10, by decide +kernel, by decide +kernel, by decide +kernel⟩
theorem rm_okC_all : ∀ (ci : Nat) (q : vw_C), vwCl[ci]? = some q → rm_okC ci q := by
  intro ci q h
  match ci, h with
  | 0, h => cases h; exact rm_okC_0
  | 1, h => cases h; exact rm_okC_1
  | 2, h => cases h; exact rm_okC_2
  | 3, h => cases h; exact rm_okC_3
  | 4, h => cases h; exact rm_okC_4
  | 5, h => cases h; exact rm_okC_5
  | 6, h => cases h; exact rm_okC_6
  | 7, h => cases h; exact rm_okC_7
  | 8, h => cases h; exact rm_okC_8
  | 9, h => cases h; exact rm_okC_9
  | 10, h => cases h; exact rm_okC_10
  | n + 11, h => simp [vwCl] at h
/-- the types of arrays, by their tags; for references the class that they are of -/
abbrev rm_ts : List FieldType := [.int, .long, .char, .byte, .boolean, .object "RootJudge$Poly", .object "RootJudge$Big", .object "RootJudge$Root"]
abbrev rm_tys (cA : Nat → ClassId) : List (ClassId × FieldType) := [(cA 0, .int), (cA 1, .long), (cA 2, .char), (cA 3, .byte), (cA 4, .boolean), (cA 5, .object "RootJudge$Poly"), (cA 6, .object "RootJudge$Big"), (cA 7, .object "RootJudge$Root")]
def rm_tc (t : Nat) : Option Nat := match t with
  | 5 => some 6
  | 6 => some 1
  | 7 => some 8
  | _ => none
/-- the texts whose characters are looked for: whose constant, its place, its characters; the static row of ints -/
def rm_sO (t : Nat) : String := match t with
  | 0 => "RootJudge$Reader"
  | _ => "RootJudge$Reader"
def rm_sI (t : Nat) : Nat := match t with
  | 0 => 83
  | _ => 112
def rm_sT (t : Nat) : String := match t with
  | 0 => "x()[]|&~=<>+-*^"
  | _ => "=<>"
def rm_sN : List Nat := [15, 3]
def rm_sB : List (List Int32) := [[120, 40, 41, 91, 93, 124, 38, 126, 61, 60, 62, 43, 45, 42, 94], [61, 60, 62]]
def rm_zC : String := "RootJudge$Divider"
def rm_zF : String := "PRIMES"
def rm_zN : Nat := 44
def rm_zV : List Int32 := [2147483647, 2147483629, 2147483587, 2147483579, 2147483563, 2147483549, 2147483543, 2147483497, 2147483489, 2147483477, 2147483423, 2147483399, 2147483353, 2147483323, 2147483269, 2147483249, 2147483237, 2147483179, 2147483171, 2147483137, 2147483123, 2147483077, 2147483069, 2147483059, 2147483053, 2147483033, 2147483029, 2147482951, 2147482949, 2147482943, 2147482937, 2147482921, 2147482877, 2147482873, 2147482867, 2147482859, 2147482819, 2147482817, 2147482811, 2147482801, 2147482763, 2147482739, 2147482697, 2147482693]
