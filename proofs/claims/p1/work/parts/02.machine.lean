/-! A MACHINE OF ITS OWN: the bytecode's instructions as functions over lists. A reference .ref k is the place k of the machine's heap (a list of cells), .retAddr n a cell that was there before (the script, a String constant, its bytes). -/
abbrev rm_H : Type := List va_E
abbrev rm_L : Type := List (Nat × Value)
/-- cells made, slots made, what symbolic branches shall do, whether they do -/
abbrev rm_T : Type := Nat × Nat × List Nat × Bool
abbrev rm_N : Type := Nat × rm_L × List Value × rm_H × rm_T
def rm_get : rm_L → Nat → Option Value
  | [], _ => none
  | q :: r, i => if q.1 == i then some q.2 else rm_get r i
def rm_put1 (lv : rm_L) (i : Nat) (v : Value) : rm_L := (i, v) :: lv.filter (fun q => !(q.1 == i) && !(q.1 + 1 == i && q.2.category == 2))
def rm_put2 (lv : rm_L) (i : Nat) (v : Value) : rm_L := (i, v) :: lv.filter (fun q => !(q.1 == i) && (!(q.1 == i + 1) && !(q.1 + 1 == i && q.2.category == 2)))
/-- what is known of the numbers that are only named: (name, number, condition, whether it holds) -/
abbrev rm_F : Type := List (Nat × Int32 × Nat × Bool)
def rm_cn : ClassFile.Cond → Nat
  | .eq => 0
  | .ne => 1
  | .lt => 2
  | .ge => 3
  | .gt => 4
  | .le => 5
def rm_lf : rm_F → Nat → Int32 → Nat → Option Bool
  | [], _, _, _ => none
  | q :: r, k, y, c => if q.1 = k ∧ q.2.1 = y ∧ q.2.2.1 = c then some q.2.2.2 else rm_lf r k y c
def rm_lw : rm_F → Nat → Option Int32
  | [], _ => none
  | q :: r, k => if q.1 = k ∧ q.2.2.1 = 0 ∧ q.2.2.2 = true then some q.2.1 else rm_lw r k
/-- a number out of a named one by a mask (0), a shift (1, 2), a narrowing (3): its name -/
def rm_sym (op k : Nat) (y : Int32) : Option Nat := match op with
  | 0 => if k = 0 ∧ y = 15 then some 4 else if 10 ≤ k ∧ k < 14 ∧ y = 255 then some (k + 20) else if 20 ≤ k ∧ k < 24 ∧ y = 255 then some (k + 10) else none
  | 1 => if k = 1 then (if y = 0 then some 20 else if y = 8 then some 21 else if y = 16 then some 22 else if y = 24 then some 23 else none) else none
  | 2 => if k = 1 then (if y = 0 then some 10 else if y = 8 then some 11 else if y = 16 then some 12 else if y = 24 then some 13 else none) else none
  | 3 => if k = 1 then some 50 else if 30 ≤ k ∧ k < 34 then some (k + 30) else none
  | _ => none
def rm_fop (op : Nat) (x y : Int32) : Int32 := match op with
  | 0 => x &&& y
  | 1 => x >>> (y &&& 31)
  | 2 => (x.toUInt32 >>> (y.toUInt32 &&& Int32.toUInt32 31)).toInt32
  | _ => (x.toUInt32 % 65536).toInt32
def rm_cnd (c : ClassFile.Cond) (x y : Int32) : Bool := match c with
  | .eq => decide (x = y)
  | .ne => decide (¬ x = y)
  | .lt => decide (x < y)
  | .ge => decide (y ≤ x)
  | .gt => decide (y < x)
  | .le => decide (x ≤ y)
def rm_tgt (pc : Nat) (off : Int) : Option Nat := if 0 ≤ (pc : Int) + off then some ((pc : Int) + off).toNat else none
-- families of instructions
def rm_push (n : Nat) (v : Value) (q : rm_N) : Option rm_N := some (q.1 + n, q.2.1, v :: q.2.2.1, q.2.2.2)
def rm_load (n i : Nat) (q : rm_N) : Option rm_N := match rm_get q.2.1 i with
  | some v => some (q.1 + n, q.2.1, v :: q.2.2.1, q.2.2.2)
  | none => none
def rm_isI : Value → Bool | .int _ => true | .float _ => true | _ => false
def rm_isJ : Value → Bool | .long _ => true | _ => false
def rm_isA : Value → Bool | .ref _ => true | .retAddr _ => true | _ => false
def rm_loadT (f : Value → Bool) (n i : Nat) (q : rm_N) : Option rm_N := match rm_get q.2.1 i with
  | some v => if f v then some (q.1 + n, q.2.1, v :: q.2.2.1, q.2.2.2) else none
  | none => none
def rm_store1 (f : Value → Bool) (nL n i : Nat) (q : rm_N) : Option rm_N := match q.2.2.1 with
  | v :: r => if f v && decide (i < nL) then some (q.1 + n, rm_put1 q.2.1 i v, r, q.2.2.2) else none
  | _ => none
def rm_store2 (nL n i : Nat) (q : rm_N) : Option rm_N := match q.2.2.1 with
  | .long v :: r => if i + 1 < nL then some (q.1 + n, rm_put2 q.2.1 i (.long v), r, q.2.2.2) else none
  | _ => none
def rm_iinc (nL i : Nat) (k : Int) (q : rm_N) : Option rm_N := match rm_get q.2.1 i with
  | some (.int x) => if i < nL then some (q.1 + 3, rm_put1 q.2.1 i (.int (x + Int32.ofInt k)), q.2.2.1, q.2.2.2) else none
  | _ => none
def rm_ii (f : Int32 → Int32 → Int32) (q : rm_N) : Option rm_N := match q.2.2.1 with
  | .int y :: .int x :: r => some (q.1 + 1, q.2.1, .int (f x y) :: r, q.2.2.2)
  | _ => none
def rm_iiz (f : Int32 → Int32 → Int32) (q : rm_N) : Option rm_N := match q.2.2.1 with
  | .int y :: .int x :: r => if y = 0 then none else some (q.1 + 1, q.2.1, .int (f x y) :: r, q.2.2.2)
  | _ => none
def rm_jji (f : Int64 → Int64 → Int32) (q : rm_N) : Option rm_N := match q.2.2.1 with
  | .long y :: .long x :: r => some (q.1 + 1, q.2.1, .int (f x y) :: r, q.2.2.2)
  | _ => none
def rm_jij (f : Int64 → Int32 → Int64) (q : rm_N) : Option rm_N := match q.2.2.1 with
  | .int y :: .long x :: r => some (q.1 + 1, q.2.1, .long (f x y) :: r, q.2.2.2)
  | _ => none
def rm_i1 (f : Int32 → Value) (q : rm_N) : Option rm_N := match q.2.2.1 with
  | .int x :: r => some (q.1 + 1, q.2.1, f x :: r, q.2.2.2)
  | _ => none
def rm_j1 (f : Int64 → Value) (q : rm_N) : Option rm_N := match q.2.2.1 with
  | .long x :: r => some (q.1 + 1, q.2.1, f x :: r, q.2.2.2)
  | _ => none
def rm_dup (q : rm_N) : Option rm_N := match q.2.2.1 with
  | v :: r => if v.category = 1 then some (q.1 + 1, q.2.1, v :: v :: r, q.2.2.2) else none
  | _ => none
def rm_pop (q : rm_N) : Option rm_N := match q.2.2.1 with
  | v :: r => if v.category = 1 then some (q.1 + 1, q.2.1, r, q.2.2.2) else none
  | _ => none
def rm_goto (off : Int) (q : rm_N) : Option rm_N := match rm_tgt q.1 off with
  | some g => some (g, q.2)
  | none => none
def rm_iis (op : Nat) (q : rm_N) : Option rm_N := match q.2.2.1 with
  | .int y :: .int x :: r => some (q.1 + 1, q.2.1, .int (rm_fop op x y) :: r, q.2.2.2)
  | .int y :: .float k :: r => match rm_sym op k.toNat y with
    | some j => some (q.1 + 1, q.2.1, .float (UInt32.ofNat j) :: r, q.2.2.2)
    | none => none
  | _ => none
def rm_i1s (q : rm_N) : Option rm_N := match q.2.2.1 with
  | .int x :: r => some (q.1 + 1, q.2.1, .int (rm_fop 3 x 0) :: r, q.2.2.2)
  | .float k :: r => match rm_sym 3 k.toNat 0 with
    | some j => some (q.1 + 1, q.2.1, .float (UInt32.ofNat j) :: r, q.2.2.2)
    | none => none
  | _ => none
/-- whether a condition holds of a number or a named one -/
def rm_dec (F : rm_F) (c : ClassFile.Cond) (x : Value) (y : Int32) : Option Bool := match x with
  | .int x => some (rm_cnd c x y)
  | .float k => rm_lf F k.toNat y (rm_cn c)
  | _ => none
def rm_if1 (F : rm_F) (c : ClassFile.Cond) (off : Int) (q : rm_N) : Option rm_N := match q.2.2.1, rm_tgt q.1 off with
  | x :: r, some g => match rm_dec F c x 0 with
    | some b => some (if b then g else q.1 + 3, q.2.1, r, q.2.2.2)
    | none => none
  | _, _ => none
def rm_if2 (F : rm_F) (c : ClassFile.Cond) (off : Int) (q : rm_N) : Option rm_N := match q.2.2.1, rm_tgt q.1 off with
  | .int y :: x :: r, some g => match rm_dec F c x y with
    | some b => some (if b then g else q.1 + 3, q.2.1, r, q.2.2.2)
    | none => none
  | _, _ => none
def rm_num (F : rm_F) : Value → Option Int32
  | .int x => some x
  | .float k => rm_lw F k.toNat
  | _ => none
def rm_table (F : rm_F) (dflt lo hi : Int) (offs : List Int) (q : rm_N) : Option rm_N := match q.2.2.1 with
  | v :: r => match rm_num F v with
    | some x => if x.toInt < lo ∨ hi < x.toInt then (match rm_tgt q.1 dflt with
        | some g => some (g, q.2.1, r, q.2.2.2)
        | none => none) else (match offs[(x.toInt - lo).toNat]? with
        | some off => (match rm_tgt q.1 off with
          | some g => some (g, q.2.1, r, q.2.2.2)
          | none => none)
        | none => none)
    | none => none
  | _ => none
/-- what a link means: (index, kind, a, b, c); kind 0 a field of class a at place b (c = 0 its own, 1 a nest mate's); 1 a class a with b fields; 2 references to class a, of array type b; 3 a method b; 4 an int; 5 a long; 6 a text -/
abbrev rm_K5 : Type := Nat × Nat × Nat × Nat × Nat
def rm_lk (ks : List rm_K5) (i : Nat) : Option (Nat × Nat × Nat × Nat) := match ks with
  | [] => none
  | k :: r => if k.1 == i then some k.2 else rm_lk r i
def rm_obj (h : rm_H) (a : Nat) : Option (Nat × List Value) := match h[a]? with
  | some (.inr o) => some o
  | _ => none
def rm_getf (k : Option (Nat × Nat × Nat × Nat)) (q : rm_N) : Option rm_N := match k, q.2.2.1 with
  | some (0, ci, f, _), .ref a :: r => match rm_obj q.2.2.2.1 a with
    | some o => if o.1 = ci then (match o.2[f]? with
      | some v => some (q.1 + 3, q.2.1, v :: r, q.2.2.2)
      | none => none) else none
    | none => none
  | _, _ => none
/-- of which type a field's value must be, by the type's tag: 0 int, 1 long, 2 a reference, 3 boolean -/
def rm_fit : FieldType → Value → Bool
  | .int, .int _ => true
  | .long, .long _ => true
  | .boolean, .int x => decide (x = 0 ∨ x = 1)
  | .object _, .ref _ => true
  | .array _, .ref _ => true
  | _, _ => false
def rm_fty (T : u_T) (k : Nat) : Option FieldType := parseFieldDescriptor (T k).2.2.1
