/-! A MACHINE OF ITS OWN: the bytecode's instructions as functions over lists, with all numbers. A reference .ref k is the place k of the machine's heap (a list of cells), .retAddr n a cell that was there before (0 the script, 2 and 4 texts, 3 and 5 their bytes, 6 the static row of ints). -/
abbrev rm_H : Type := List va_E
abbrev rm_L : Type := List (Nat × Value)
/-- cells made, slots made -/
abbrev rm_T : Type := Nat × Nat
abbrev rm_N : Type := Nat × rm_L × List Value × rm_H × rm_T
def rm_get : rm_L → Nat → Option Value
  | [], _ => none
  | q :: r, i => if q.1 == i then some q.2 else rm_get r i
def rm_put1 (lv : rm_L) (i : Nat) (v : Value) : rm_L := (i, v) :: lv.filter (fun q => !(q.1 == i) && !(q.1 + 1 == i && q.2.category == 2))
def rm_put2 (lv : rm_L) (i : Nat) (v : Value) : rm_L := (i, v) :: lv.filter (fun q => !(q.1 == i) && (!(q.1 == i + 1) && !(q.1 + 1 == i && q.2.category == 2)))
def rm_cnd (c : ClassFile.Cond) (x y : Int32) : Bool := match c with
  | .eq => decide (x = y)
  | .ne => decide (¬ x = y)
  | .lt => decide (x < y)
  | .ge => decide (y ≤ x)
  | .gt => decide (y < x)
  | .le => decide (x ≤ y)
def rm_tgt (pc : Nat) (off : Int) : Option Nat := if 0 ≤ (pc : Int) + off then some ((pc : Int) + off).toNat else none
-- families of instructions
def rm_push (n : Nat) (v : Value) (q : rm_N) : Option rm_N := some (q.1 + n, q.2.1, v :: q.2.2.1, q.2.2.2)
def rm_isI : Value → Bool | .int _ => true | _ => false
def rm_isJ : Value → Bool | .long _ => true | _ => false
def rm_isA : Value → Bool | .ref _ => true | .retAddr _ => true | _ => false
def rm_loadT (f : Value → Bool) (n i : Nat) (q : rm_N) : Option rm_N := match rm_get q.2.1 i with
  | some v => if f v then some (q.1 + n, q.2.1, v :: q.2.2.1, q.2.2.2) else none
  | none => none
def rm_store1 (f : Value → Bool) (nL n i : Nat) (q : rm_N) : Option rm_N := match q.2.2.1 with
  | v :: r => if f v && decide (i < nL) then some (q.1 + n, rm_put1 q.2.1 i v, r, q.2.2.2) else none
  | _ => none
def rm_store2 (nL n i : Nat) (q : rm_N) : Option rm_N := match q.2.2.1 with
  | .long v :: r => if i + 1 < nL then some (q.1 + n, rm_put2 q.2.1 i (.long v), r, q.2.2.2) else none
  | _ => none
def rm_iinc (nL i : Nat) (k : Int) (q : rm_N) : Option rm_N := match rm_get q.2.1 i with
  | some (.int x) => if i < nL then some (q.1 + 3, rm_put1 q.2.1 i (.int (x + Int32.ofInt k)), q.2.2.1, q.2.2.2) else none
  | _ => none
def rm_ii (f : Int32 → Int32 → Int32) (q : rm_N) : Option rm_N := match q.2.2.1 with
  | .int y :: .int x :: r => some (q.1 + 1, q.2.1, .int (f x y) :: r, q.2.2.2)
  | _ => none
def rm_iiz (f : Int32 → Int32 → Int32) (q : rm_N) : Option rm_N := match q.2.2.1 with
  | .int y :: .int x :: r => if y = 0 then none else some (q.1 + 1, q.2.1, .int (f x y) :: r, q.2.2.2)
  | _ => none
def rm_jji (f : Int64 → Int64 → Int32) (q : rm_N) : Option rm_N := match q.2.2.1 with
  | .long y :: .long x :: r => some (q.1 + 1, q.2.1, .int (f x y) :: r, q.2.2.2)
  | _ => none
def rm_jj (f : Int64 → Int64 → Int64) (q : rm_N) : Option rm_N := match q.2.2.1 with
  | .long y :: .long x :: r => some (q.1 + 1, q.2.1, .long (f x y) :: r, q.2.2.2)
  | _ => none
def rm_jjz (f : Int64 → Int64 → Int64) (q : rm_N) : Option rm_N := match q.2.2.1 with
  | .long y :: .long x :: r => if y = 0 then none else some (q.1 + 1, q.2.1, .long (f x y) :: r, q.2.2.2)
  | _ => none
def rm_jij (f : Int64 → Int32 → Int64) (q : rm_N) : Option rm_N := match q.2.2.1 with
  | .int y :: .long x :: r => some (q.1 + 1, q.2.1, .long (f x y) :: r, q.2.2.2)
  | _ => none
def rm_i1 (f : Int32 → Value) (q : rm_N) : Option rm_N := match q.2.2.1 with
  | .int x :: r => some (q.1 + 1, q.2.1, f x :: r, q.2.2.2)
  | _ => none
def rm_j1 (f : Int64 → Value) (q : rm_N) : Option rm_N := match q.2.2.1 with
  | .long x :: r => some (q.1 + 1, q.2.1, f x :: r, q.2.2.2)
  | _ => none
def rm_dup (q : rm_N) : Option rm_N := match q.2.2.1 with
  | v :: r => if v.category = 1 then some (q.1 + 1, q.2.1, v :: v :: r, q.2.2.2) else none
  | _ => none
/-- dup2 of two words of one place each, or of one of two -/
def rm_dup2 (q : rm_N) : Option rm_N := match q.2.2.1 with
  | .long x :: r => some (q.1 + 1, q.2.1, .long x :: .long x :: r, q.2.2.2)
  | v :: w :: r => if v.category = 1 ∧ w.category = 1 then some (q.1 + 1, q.2.1, v :: w :: v :: w :: r, q.2.2.2) else none
  | _ => none
def rm_pop (q : rm_N) : Option rm_N := match q.2.2.1 with
  | v :: r => if v.category = 1 then some (q.1 + 1, q.2.1, r, q.2.2.2) else none
  | _ => none
def rm_pop2 (q : rm_N) : Option rm_N := match q.2.2.1 with
  | .long _ :: r => some (q.1 + 1, q.2.1, r, q.2.2.2)
  | _ => none
def rm_goto (off : Int) (q : rm_N) : Option rm_N := match rm_tgt q.1 off with
  | some g => some (g, q.2)
  | none => none
def rm_if1 (c : ClassFile.Cond) (off : Int) (q : rm_N) : Option rm_N := match q.2.2.1, rm_tgt q.1 off with
  | .int x :: r, some g => some (if rm_cnd c x 0 then g else q.1 + 3, q.2.1, r, q.2.2.2)
  | _, _ => none
def rm_if2 (c : ClassFile.Cond) (off : Int) (q : rm_N) : Option rm_N := match q.2.2.1, rm_tgt q.1 off with
  | .int y :: .int x :: r, some g => some (if rm_cnd c x y then g else q.1 + 3, q.2.1, r, q.2.2.2)
  | _, _ => none
def rm_table (dflt lo hi : Int) (offs : List Int) (q : rm_N) : Option rm_N := match q.2.2.1 with
  | .int x :: r => if x.toInt < lo ∨ hi < x.toInt then (match rm_tgt q.1 dflt with
        | some g => some (g, q.2.1, r, q.2.2.2)
        | none => none) else (match offs[(x.toInt - lo).toNat]? with
        | some off => (match rm_tgt q.1 off with
          | some g => some (g, q.2.1, r, q.2.2.2)
          | none => none)
        | none => none)
  | _ => none
/-- what a link means: (index, kind, a, b, c); kind 0 a field of class a at place b (c = 0 its own, 1 a nest mate's); 1 a class a with b fields; 2 references to class a, of array type b; 3 a method b; 4 an int; 5 a long; 6 a text; 7, 8 the texts' fields; 9 the static row -/
abbrev rm_K5 : Type := Nat × Nat × Nat × Nat × Nat
def rm_lk (ks : List rm_K5) (i : Nat) : Option (Nat × Nat × Nat × Nat) := match ks with
  | [] => none
  | k :: r => if k.1 == i then some k.2 else rm_lk r i
def rm_obj (h : rm_H) (a : Nat) : Option (Nat × List Value) := match h[a]? with
  | some (.inr o) => some o
  | _ => none
def rm_getf (k : Option (Nat × Nat × Nat × Nat)) (q : rm_N) : Option rm_N := match k, q.2.2.1 with
  | some (0, ci, f, _), .ref a :: r => match rm_obj q.2.2.2.1 a with
    | some o => if o.1 = ci then (match o.2[f]? with
      | some v => some (q.1 + 3, q.2.1, v :: r, q.2.2.2)
      | none => none) else none
    | none => none
  | _, _ => none
/-- of which type a field's value must be, by the type's tag: 0 int, 1 long, 2 a reference, 3 boolean -/
def rm_fit : FieldType → Value → Bool
  | .int, .int _ => true
  | .long, .long _ => true
  | .boolean, .int x => decide (x = 0 ∨ x = 1)
  | .object _, .ref _ => true
  | .array _, .ref _ => true
  | _, _ => false
def rm_fty (T : u_T) (k : Nat) : Option FieldType := parseFieldDescriptor (T k).2.2.1
