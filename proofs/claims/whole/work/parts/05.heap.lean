/-! INSTRUCTIONS THAT READ, WRITE AND MAKE CELLS -/
/-- what a method's start has beside its words: the tables' classes, the array types, nest mates' links, the script -/
def rm_G (sz : Nat) (ext : Nat → Nat) (U : State) (H : Heap) : Prop := (∀ t : Nat, t < 2 → vk_R (rm_sO t) (rm_sI t) (rm_sT t) (ext (2 + 2 * t)) U) ∧ vk_S 2 rm_sN rm_sB (fun t => ext (2 + 2 * t)) (fun t => ext (3 + 2 * t)) (fun q => sz ≤ q) U H ∧ va_Z "java/lang/String" "COMPACT_STRINGS" "Z" (.int 1) (fun q => sz ≤ q) U H ∧ va_Z rm_zC rm_zF "[I" (.ref (ext 6)) (fun q => sz ≤ q) U H ∧ va_T .int (ext 6) rm_zN (fun j => .int (rm_zV.getD j 0)) (fun q => sz ≤ q) U H
def rm_X (D : va_G) (cA : Nat → ClassId) (sz : Nat) (ext : Nat → Nat) (L : Nat) (ys : Nat → Int32) (U : State) : Prop :=
  va_K D vwCl (rm_tys cA) U ∧ (∀ (t : Nat) (C : String), rm_ts[t]? = some (FieldType.object C) → va_AO C U) ∧ (∀ w ∈ rm_nest, va_Nw w U) ∧ (L ≠ 1000000 → va_X (ext 0) L ys U U.heap) ∧ ext 0 < sz ∧ rm_G sz ext U U.heap
/-- a link means what the tables say -/
def rm_okK (own : String) (k : rm_K5) : Prop := match k with
  | (i, 0, ci, f, 0) => ∃ (C : String) (T : u_T) (N : Nat), vwCl[ci]? = some (C, T, N) ∧ f < N ∧ Cond.fieldLink own i C (T f).2.1 (T f).2.2.1 ∈ rm_tb
  | (i, 0, ci, f, _) => ∃ (C : String) (T : u_T) (N : Nat), vwCl[ci]? = some (C, T, N) ∧ f < N ∧ Cond.fieldLinkNest own i C (T f).2.1 (T f).2.2.1 "RootJudge" ∈ rm_nest
  | (i, 1, ci, N, t) => ∃ (C : String) (T : u_T), vwCl[ci]? = some (C, T, N) ∧ Cond.classLink own i C ∈ rm_tb ∧ (5 ≤ t → rm_ts[t]? = some (FieldType.object C))
  | (i, 4, a, _, _) => Cond.constant own i (Int32.ofNat a) ∈ rm_tb
  | (i, 5, a, _, _) => Cond.constantLong own i (Int64.ofNat a) ∈ rm_tb
  | (i, 6, t, _, _) => t < 2 ∧ own = rm_sO t ∧ i = rm_sI t
  | (i, 7, 0, _, _) => Cond.fieldLink own i "java/lang/String" "value" "[B" ∈ rm_tb
  | (i, 7, _, _, _) => Cond.fieldLink own i "java/lang/String" "coder" "B" ∈ rm_tb
  | (i, 8, _, _, _) => Cond.fieldLink own i "java/lang/String" "COMPACT_STRINGS" "Z" ∈ rm_tb
  | (i, 9, _, _, _) => Cond.fieldLink own i rm_zC rm_zF "[I" ∈ rm_tb
  | _ => True
theorem rm_lk_mem {ks : List rm_K5} {i : Nat} {k : Nat × Nat × Nat × Nat} (h : rm_lk ks i = some k) : (i, k) ∈ ks := by
  induction ks with
  | nil => cases h
  | cons q r ih =>
    unfold rm_lk at h
    by_cases hq : q.1 == i
    · rw [if_pos hq] at h
      have e : q.1 = i := by simpa using hq
      cases h
      cases q
      cases e
      exact List.mem_cons_self
    · rw [if_neg hq] at h
      exact List.mem_cons_of_mem _ (ih h)
def rm_in (i : Int32) (n : Nat) : Bool := !(decide (i < 0)) && decide (i.toNatClampNeg < n)
theorem rm_in_ok {i : Int32} {n : Nat} (h : rm_in i n = true) : vp_in i n := by
  unfold rm_in at h
  simp only [Bool.and_eq_true, Bool.not_eq_true', decide_eq_false_iff_not, decide_eq_true_eq] at h
  intro z
  rcases z with z | z
  · exact h.1 z
  · omega
def rm_up (t : rm_T) (a b : Nat) : rm_T := (t.1 + a, t.2 + b)
def rm_new (k : Option (Nat × Nat × Nat × Nat)) (q : rm_N) : Option rm_N := match k with
  | some (1, ci, N, _) => some (q.1 + 3, q.2.1, .ref q.2.2.2.1.length :: q.2.2.1, q.2.2.2.1 ++ [.inr (ci, (List.range N).map (fun j => defaultValue (rm_ft ci j)))], rm_up q.2.2.2.2 1 N)
  | _ => none

def rm_newq (k : Option (Nat × Nat × Nat × Nat)) (q : rm_N) : Option rm_N := match k, q.2.2.1 with
  | some (1, _, _, t), .int n :: r => if decide (n < 0) || decide (1000000 < n.toNatClampNeg) || decide (t < 5) then none else some (q.1 + 3, q.2.1, .ref q.2.2.2.1.length :: r, q.2.2.2.1 ++ [.inl (t, n.toNatClampNeg, .inr (.inr (.inr (.inr (fun _ => none)))))], rm_up q.2.2.2.2 1 n.toNatClampNeg)
  | _, _ => none
/-- what a new row of numbers holds, by its type -/
def rm_d0 (t : Nat) : (Nat → Int32) ⊕ (Nat → Int64) ⊕ (Nat → UInt32) ⊕ (Nat → UInt64) ⊕ (Nat → Option Nat) := if t = 1 then .inr (.inl (fun _ => 0)) else .inl (fun _ => 0)
def rm_newa (t : Nat) (q : rm_N) : Option rm_N := match q.2.2.1 with
  | .int n :: r => if decide (n < 0) || decide (1000000 < n.toNatClampNeg) then none else some (q.1 + 2, q.2.1, .ref q.2.2.2.1.length :: r, q.2.2.2.1 ++ [.inl (t, n.toNatClampNeg, rm_d0 t)], rm_up q.2.2.2.2 1 n.toNatClampNeg)
  | _ => none
def rm_fin (ci f : Nat) : Bool := match vwCl[ci]? with
  | some q => (q.2.1 f).2.2.2
  | none => true
def rm_putf (ini : Bool) (oc : Nat) (k : Option (Nat × Nat × Nat × Nat)) (q : rm_N) : Option rm_N := match k, q.2.2.1 with
  | some (0, ci, f, 0), v :: .ref a :: r => match rm_obj q.2.2.2.1 a with
    | some o => if decide (o.1 = ci) && rm_fit (rm_ft ci f) v && decide (f < o.2.length) && (!(rm_fin ci f) || (ini && decide (oc = ci))) then some (q.1 + 3, q.2.1, r, q.2.2.2.1.set a (.inr (ci, o.2.set f v)), q.2.2.2.2) else none
    | none => none
  | _, _ => none
/-- a nest mate's field -/
def rm_putfN (k : Option (Nat × Nat × Nat × Nat)) (q : rm_N) : Option rm_N := match k, q.2.2.1 with
  | some (0, ci, f, _ + 1), v :: .ref a :: r => match rm_obj q.2.2.2.1 a with
    | some o => if decide (o.1 = ci) && rm_fit (rm_ft ci f) v && decide (f < o.2.length) && !(rm_fin ci f) then some (q.1 + 3, q.2.1, r, q.2.2.2.1.set a (.inr (ci, o.2.set f v)), q.2.2.2.2) else none
    | none => none
  | _, _ => none
def rm_putfA (ini : Bool) (oc : Nat) (k : Option (Nat × Nat × Nat × Nat)) (q : rm_N) : Option rm_N := match k with
  | some (0, ci, f, w + 1) => rm_putfN (some (0, ci, f, w + 1)) q
  | _ => rm_putf ini oc k q
def rm_arr (h : rm_H) (a : Nat) : Option (Nat × vp_A) := match h[a]? with
  | some (.inl o) => some o
  | _ => none
/-- how long a row is that was there before -/
def rm_xl (L n : Nat) : Option Nat := if n = 0 then (if L = 1000000 then none else some L) else if n = 3 ∨ n = 5 then rm_sN[(n - 3) / 2]? else if n = 6 then some rm_zN else none
def rm_alen (L : Nat) (q : rm_N) : Option rm_N := match q.2.2.1 with
  | .ref a :: r => match rm_arr q.2.2.2.1 a with
    | some o => if o.1 < 8 then some (q.1 + 1, q.2.1, .int (Int32.ofNat o.2.1) :: r, q.2.2.2) else none
    | none => none
  | .retAddr n :: r => match rm_xl L n with
    | some k => some (q.1 + 1, q.2.1, .int (Int32.ofNat k) :: r, q.2.2.2)
    | none => none
  | _ => none
/-- a number out of a row of ints: of the heap, of the script, of the static row -/
def rm_iald (L : Nat) (ys : Nat → Int32) (q : rm_N) : Option rm_N := match q.2.2.1 with
  | .int i :: .ref a :: r => match rm_arr q.2.2.2.1 a with
    | some (0, n, .inl f) => if rm_in i n then some (q.1 + 1, q.2.1, .int (f i.toNatClampNeg) :: r, q.2.2.2) else none
    | _ => none
  | .int i :: .retAddr n :: r => if n = 0 then (if rm_in i L && decide (L ≠ 1000000) then some (q.1 + 1, q.2.1, .int (ys i.toNatClampNeg) :: r, q.2.2.2) else none) else if n = 6 then (if rm_in i rm_zN then some (q.1 + 1, q.2.1, .int (rm_zV.getD i.toNatClampNeg 0) :: r, q.2.2.2) else none) else none
  | _ => none
def rm_lald (q : rm_N) : Option rm_N := match q.2.2.1 with
  | .int i :: .ref a :: r => match rm_arr q.2.2.2.1 a with
    | some (1, n, .inr (.inl f)) => if rm_in i n then some (q.1 + 1, q.2.1, .long (f i.toNatClampNeg) :: r, q.2.2.2) else none
    | _ => none
  | _ => none
def rm_cald (q : rm_N) : Option rm_N := match q.2.2.1 with
  | .int i :: .ref a :: r => match rm_arr q.2.2.2.1 a with
    | some (2, n, .inl f) => if rm_in i n then some (q.1 + 1, q.2.1, .int (f i.toNatClampNeg) :: r, q.2.2.2) else none
    | _ => none
  | _ => none
def rm_bald (q : rm_N) : Option rm_N := match q.2.2.1 with
  | .int i :: .ref a :: r => match rm_arr q.2.2.2.1 a with
    | some (3, n, .inl f) => if rm_in i n then some (q.1 + 1, q.2.1, .int (f i.toNatClampNeg) :: r, q.2.2.2) else none
    | some (4, n, .inl f) => if rm_in i n then some (q.1 + 1, q.2.1, .int (f i.toNatClampNeg) :: r, q.2.2.2) else none
    | _ => none
  | .int i :: .retAddr n :: r => if n = 3 ∨ n = 5 then (if rm_in i (rm_sN.getD ((n - 3) / 2) 0) then some (q.1 + 1, q.2.1, .int ((rm_sB.getD ((n - 3) / 2) []).getD i.toNatClampNeg 0) :: r, q.2.2.2) else none) else none
  | _ => none
def rm_aald (q : rm_N) : Option rm_N := match q.2.2.1 with
  | .int i :: .ref a :: r => match rm_arr q.2.2.2.1 a with
    | some (t, n, .inr (.inr (.inr (.inr f)))) => if rm_in i n && decide (5 ≤ t) && decide (t < 8) then some (q.1 + 1, q.2.1, va_rf (f i.toNatClampNeg) :: r, q.2.2.2) else none
    | _ => none
  | _ => none
/-- a number into a row of numbers -/
def rm_iast (t : Nat) (ty : FieldType) (q : rm_N) : Option rm_N := match q.2.2.1 with
  | .int x :: .int i :: .ref a :: r => match rm_arr q.2.2.2.1 a with
    | some (t', n, .inl f) => if decide (t' = t) && rm_in i n then some (q.1 + 1, q.2.1, r, q.2.2.2.1.set a (.inl (t, n, .inl (upd f i.toNatClampNeg (vp_nar ty x)))), q.2.2.2.2) else none
    | _ => none
  | _ => none
/-- bastore: of bytes or of booleans -/
def rm_bast (q : rm_N) : Option rm_N := match q.2.2.1 with
  | .int _ :: .int _ :: .ref a :: _ => match rm_arr q.2.2.2.1 a with
    | some (3, _, _) => rm_iast 3 .byte q
    | some (4, _, _) => rm_iast 4 .boolean q
    | _ => none
  | _ => none
def rm_last (q : rm_N) : Option rm_N := match q.2.2.1 with
  | .long x :: .int i :: .ref a :: r => match rm_arr q.2.2.2.1 a with
    | some (t', n, .inr (.inl f)) => if decide (t' = 1) && rm_in i n then some (q.1 + 1, q.2.1, r, q.2.2.2.1.set a (.inl (1, n, .inr (.inl (vp_updL f i.toNatClampNeg x)))), q.2.2.2.2) else none
    | _ => none
  | _ => none
def rm_aast (q : rm_N) : Option rm_N := match q.2.2.1 with
  | .ref v :: .int i :: .ref a :: r => match rm_arr q.2.2.2.1 a, rm_obj q.2.2.2.1 v with
    | some (t, n, .inr (.inr (.inr (.inr f)))), some o => if rm_in i n && decide (rm_tc t = some o.1) then some (q.1 + 1, q.2.1, r, q.2.2.2.1.set a (.inl (t, n, .inr (.inr (.inr (.inr (va_up f i.toNatClampNeg (some v))))))), q.2.2.2.2) else none
    | _, _ => none
  | _ => none
/-- System.arraycopy of ints -/
def rm_acopy (q : rm_N) : Option rm_N := match q.2.2.1 with
  | .int n :: .int dp :: .ref b :: .int sp :: .ref a :: r => match rm_arr q.2.2.2.1 a, rm_arr q.2.2.2.1 b with
    | some (0, n0, .inl f), some (0, n1, .inl g) => if (¬ sp < 0 ∧ ¬ dp < 0 ∧ ¬ n < 0) ∧ sp.toNatClampNeg + n.toNatClampNeg ≤ n0 ∧ dp.toNatClampNeg + n.toNatClampNeg ≤ n1 ∧ (r.map fun v => v.category).sum ≤ 8 then some (q.1 + 3, q.2.1, r, q.2.2.2.1.set b (.inl (0, n1, .inl (va_cpy f g sp.toNatClampNeg dp.toNatClampNeg n.toNatClampNeg))), q.2.2.2.2) else none
    | _, _ => none
  | _ => none
def rm_ldc (n : Nat) (k : Option (Nat × Nat × Nat × Nat)) (q : rm_N) : Option rm_N := match k with
  | some (4, a, _, _) => rm_push n (.int (Int32.ofNat a)) q
  | _ => none
def rm_ldc2 (k : Option (Nat × Nat × Nat × Nat)) (q : rm_N) : Option rm_N := match k with
  | some (5, a, _, _) => rm_push 3 (.long (Int64.ofNat a)) q
  | _ => none
def rm_ldcA (k : Option (Nat × Nat × Nat × Nat)) (q : rm_N) : Option rm_N := match k with
  | some (6, t, _, _) => rm_push 2 (.retAddr (2 + 2 * t)) q
  | _ => rm_ldc 2 k q
def rm_gets (k : Option (Nat × Nat × Nat × Nat)) (q : rm_N) : Option rm_N := match k with
  | some (8, _, _, _) => rm_push 3 (.int 1) q
  | some (9, _, _, _) => rm_push 3 (.retAddr 6) q
  | _ => none
/-- getfield, of a cell of the heap or of a text -/
def rm_getfA (k : Option (Nat × Nat × Nat × Nat)) (q : rm_N) : Option rm_N := match k, q.2.2.1 with
  | some (7, 0, _, _), .retAddr n :: r => if n = 2 ∨ n = 4 then some (q.1 + 3, q.2.1, .retAddr (n + 1) :: r, q.2.2.2) else none
  | some (7, _ + 1, _, _), .retAddr n :: r => if n = 2 ∨ n = 4 then some (q.1 + 3, q.2.1, .int 0 :: r, q.2.2.2) else none
  | _, _ => rm_getf k q
-- the relation
theorem rm_obj_ok {h : rm_H} {a : Nat} {o : Nat × List Value} (e : rm_obj h a = some o) : h[a]? = some (.inr o) := by
  unfold rm_obj at e
  split at e
  · rename_i o' h1; cases e; exact h1
  · cases e
theorem rm_arr_ok {h : rm_H} {a : Nat} {o : Nat × vp_A} (e : rm_arr h a = some o) : h[a]? = some (.inl o) := by
  unfold rm_arr at e
  split at e
  · rename_i o' h1; cases e; exact h1
  · cases e
theorem rm_R.set {D : va_G} {sz : Nat} {ext : Nat → Nat} {cA : Nat → ClassId} {h : rm_H} {H H1 : Heap} {a : Nat} {c0 c1 : va_E} (hR : rm_R D sz ext cA h H) (h0 : h[a]? = some c0) (h1 : rm_at1 D sz ext cA a c1 H1) (z : H1.size = H.size) (oq : ∀ q : Nat, q ≠ sz + a → H1[q]? = H[q]?) : rm_R D sz ext cA (h.set a c1) H1 := by
  refine ⟨by rw [z, hR.1, List.length_set], fun k c hk => ?_⟩
  by_cases e : k = a
  · subst e
    rw [List.getElem?_set_self (List.getElem?_eq_some_iff.mp h0).1] at hk
    cases hk
    exact h1
  · rw [List.getElem?_set_ne (Ne.symm e)] at hk
    exact (hR.2 k c hk).kept (oq _ (by show sz + k ≠ sz + a; omega))
theorem rm_R.push {D : va_G} {sz : Nat} {ext : Nat → Nat} {cA : Nat → ClassId} {h : rm_H} {H H1 : Heap} {c1 : va_E} (hR : rm_R D sz ext cA h H) (h1 : rm_at1 D sz ext cA h.length c1 H1) (z : H1.size = H.size + 1) (oq : ∀ q : Nat, q < H.size → H1[q]? = H[q]?) : rm_R D sz ext cA (h ++ [c1]) H1 := by
  refine ⟨by rw [z, hR.1, List.length_append]; rfl, fun k c hk => ?_⟩
  by_cases e : k < h.length
  · rw [List.getElem?_append_left e] at hk
    exact (hR.2 k c hk).kept (oq _ (by show sz + k < H.size; rw [hR.1]; omega))
  · rw [List.getElem?_append_right (by omega)] at hk
    have hz : k - h.length < 1 := (List.getElem?_eq_some_iff.mp hk).1
    have hz0 : k = h.length := by omega
    subst hz0
    rw [Nat.sub_self] at hk
    cases hk
    exact h1
theorem rm_S.put {sz : Nat} {H0 H H1 : Heap} {locs : List Loc} {a k : Nat} (hS : rm_S sz H0 H locs) (ha : sz ≤ a) (oq : ∀ q : Nat, q ≠ a → H1[q]? = H[q]?) : rm_S sz H0 H1 (locs ++ [⟨a, k⟩]) := by
  refine ⟨fun q hq => (oq q (by omega)).trans (hS.1 q hq), fun q hq => ?_⟩
  rcases List.mem_append.mp hq with h | h
  · exact hS.2 q h
  · rw [List.mem_singleton.mp h]; exact ha
theorem rm_S.new {sz : Nat} {H0 H H1 : Heap} {locs : List Loc} (hS : rm_S sz H0 H locs) (hz : sz ≤ H.size) (oq : ∀ q : Nat, q < H.size → H1[q]? = H[q]?) : rm_S sz H0 H1 locs :=
  ⟨fun q hq => (oq q (by omega)).trans (hS.1 q hq), hS.2⟩
section RMH
variable {p : Program} {l : Launch} {e : Env} {R : Room} {s : State} {m : MethodId} {args : Array Value} {below : List Frame} {meth : Method} {c : Code} {Q : State → Prop}
variable {nL sz : Nat} {ext : Nat → Nat} {cA : Nat → ClassId} {D : va_G} {own : String} {L : Nat} {ys : Nat → Int32} {ks : List rm_K5}
abbrev rm_KR (p : Program) (l : Launch) (e : Env) (R : Room) (s : State) (m : MethodId) (args : Array Value) (below : List Frame) (meth : Method) (c : Code) (Q : State → Prop) (nL sz : Nat) (ext : Nat → Nat) (cA : Nat → ClassId) (D : va_G) (i : Instr) (n : Nat) (f : rm_N → Option rm_N) : Prop :=
  ∀ (q r : rm_N), decode c.code q.1 = .ok (i, n) → f q = some r → r.2.2.2.2.1 ≤ R.cells → r.2.2.2.2.2 ≤ R.slots → rm_K p l e R s m args below meth c Q nL sz ext cA D r → rm_K p l e R s m args below meth c Q nL sz ext cA D q
theorem rm_s_getf (hx : p.tables.exec = Jvm.exec) (hts : ∀ w ∈ rm_tb, w.before args s = true) (hX : rm_X D cA sz ext L ys s) (hown : s.vm.findClass own = some m.cls) (hks : ∀ k ∈ ks, rm_okK own k) {i : Nat} : rm_KR p l e R s m args below meth c Q nL sz ext cA D (.getfield i) 3 (rm_getf (rm_lk ks i)) := by
  intro q r hd hf _ _ K ls H locs hl hR hS
  unfold rm_getf at hf
  split at hf
  · rename_i ci f cf a st hk hst
    have hok := hks _ (rm_lk_mem hk)
    split at hf
    · rename_i o ho
      split at hf
      · rename_i hci
        split at hf
        · rename_i v hv
          cases hf
          obtain ⟨ci', fs⟩ := o
          have hci : ci' = ci := hci
          subst hci
          have hk0 := rm_obj_ok ho
          have hat := hR.2 _ _ hk0
          have hP : va_P D vwCl [(sz + a, rm_c sz ext cA (.inr (ci', fs)))] H := fun j x hj => by
            cases j with
            | zero => cases hj; exact hat
            | succ j => simp at hj
          have hv' : (fs.map (rm_v sz ext))[f]? = some (rm_v sz ext v) := by rw [List.getElem?_map]; show Option.map _ _ = _; rw [show fs[f]? = some v from hv]; rfl
          have hkk := K ls H locs hl hR hS
          rw [hst]
          cases cf with
          | zero =>
            obtain ⟨C, T, N, h1, h2, h3⟩ := hok
            obtain ⟨g1, g2, g3, g4, g5, g6⟩ := rm_okC_all _ _ h1
            exact va_get (D := D) (cl := vwCl) (ci := ci') (C := C) (T := T) (N := N) hx rfl hts g1 hown hX.1 hP 0 rfl h1 f h2 (hts _ h3) (fun x hxx => by have z : (T f).1 = C := g4 f h2; rw [z] at hxx; exact hxx) hv' hd hkk
          | succ cf =>
            obtain ⟨C, T, N, h1, h2, h3⟩ := hok
            obtain ⟨g1, g2, g3, g4, g5, g6⟩ := rm_okC_all _ _ h1
            exact va_getN (D := D) (cl := vwCl) (ci := ci') (C := C) (T := T) (N := N) hx rfl hts g1 hown hX.1 hP 0 rfl h1 f h2 (va_Nw.use rfl (hX.2.2.1 _ h3)) (fun x hxx => by have z : (T f).1 = C := g4 f h2; rw [z] at hxx; exact hxx) hv' hd hkk
        · cases hf
      · cases hf
    · cases hf
  · cases hf
theorem rm_hq {sz : Nat} {H0 H : Heap} {locs : List Loc} (hS : rm_S sz H0 H locs) : ∀ a : Nat, a < H0.size → ¬ (fun q => sz ≤ q) a → H[a]? = H0[a]? := fun a _ h => hS.1 a (Nat.lt_of_not_le h)
theorem rm_t2 {n : Nat} (h : n = 2 ∨ n = 4) : ∃ t, t < 2 ∧ n = 2 + 2 * t := by
  rcases h with rfl | rfl
  · exact ⟨0, by decide, rfl⟩
  · exact ⟨1, by decide, rfl⟩
theorem rm_t3 {n : Nat} (h : n = 3 ∨ n = 5) : ∃ t, t < 2 ∧ n = 3 + 2 * t ∧ (n - 3) / 2 = t := by
  rcases h with rfl | rfl
  · exact ⟨0, by decide, rfl, rfl⟩
  · exact ⟨1, by decide, rfl, rfl⟩
theorem rm_s_getfA (hx : p.tables.exec = Jvm.exec) (hts : ∀ w ∈ rm_tb, w.before args s = true) (hX : rm_X D cA sz ext L ys s) (hown : s.vm.findClass own = some m.cls) (hks : ∀ k ∈ ks, rm_okK own k) {i : Nat} : rm_KR p l e R s m args below meth c Q nL sz ext cA D (.getfield i) 3 (rm_getfA (rm_lk ks i)) := by
  intro q r hd hf h1 h2 K
  unfold rm_getfA at hf
  split at hf
  · rename_i u1 u2 n st hk hst
    have hok := hks _ (rm_lk_mem hk)
    split at hf
    · rename_i hn
      cases hf
      obtain ⟨t, ht, rfl⟩ := rm_t2 hn
      intro ls H locs hl hR hS
      obtain ⟨-, -, hv, -⟩ := hX.2.2.2.2.2.2.1.1 t ht
      obtain ⟨cf, k9, fi, f, cell, g1, g2, g3, g4, g5, g6⟩ := hv.kept (rm_hq hS)
      have hk9 := K ls H locs hl hR hS
      have e9 : (2 + 2 * t + 1) = 3 + 2 * t := by omega
      dsimp only at hk9
      rw [e9] at hk9
      rw [hst]
      exact W.getf hx rfl hown (hts _ hok) g1 g2 g3 g4 (v := .ref (ext (3 + 2 * t))) g5 rfl rfl hd hk9
    · cases hf
  · rename_i u0 u1 u2 n st hk hst
    have hok := hks _ (rm_lk_mem hk)
    split at hf
    · rename_i hn
      cases hf
      obtain ⟨t, ht, rfl⟩ := rm_t2 hn
      intro ls H locs hl hR hS
      obtain ⟨-, hv, -, -⟩ := hX.2.2.2.2.2.2.1.1 t ht
      obtain ⟨cf, k9, fi, f, cell, g1, g2, g3, g4, g5, g6⟩ := hv.kept (rm_hq hS)
      have hk9 := K ls H locs hl hR hS
      rw [hst]
      exact W.getf hx rfl hown (hts _ hok) g1 g2 g3 g4 (v := .int 0) g5 rfl rfl hd hk9
    · cases hf
  · exact rm_s_getf hx hts hX hown hks q r hd hf h1 h2 K
theorem rm_s_gets (hx : p.tables.exec = Jvm.exec) (hts : ∀ w ∈ rm_tb, w.before args s = true) (hX : rm_X D cA sz ext L ys s) (hown : s.vm.findClass own = some m.cls) (hks : ∀ k ∈ ks, rm_okK own k) {i : Nat} : rm_KR p l e R s m args below meth c Q nL sz ext cA D (.getstatic i) 3 (rm_gets (rm_lk ks i)) := by
  intro q r hd hf _ _ K ls H locs hl hR hS
  unfold rm_gets at hf
  split at hf
  · rename_i u1 u2 u3 hk
    have hok := hks _ (rm_lk_mem hk)
    cases hf
    obtain ⟨cf, kf, fi, f, a, cell, g1, g2, g3, g4, g5, g6, g7, g8⟩ := hX.2.2.2.2.2.2.2.1.kept (rm_hq hS)
    exact W.gets hx rfl hown (hts _ hok) g1 g2 g3 g4 g5 (fun e => by rw [e] at g6; cases g6) g7 rfl hd (K ls H locs hl hR hS)
  · rename_i u1 u2 u3 hk
    have hok := hks _ (rm_lk_mem hk)
    cases hf
    obtain ⟨cf, kf, fi, f, a, cell, g1, g2, g3, g4, g5, g6, g7, g8⟩ := hX.2.2.2.2.2.2.2.2.1.kept (rm_hq hS)
    exact W.gets hx rfl hown (hts _ hok) g1 g2 g3 g4 g5 (fun e => by rw [e] at g6; cases g6) g7 rfl hd (K ls H locs hl hR hS)
  · cases hf
theorem rm_s_ldc (hx : p.tables.exec = Jvm.exec) (hts : ∀ w ∈ rm_tb, w.before args s = true) (hown : s.vm.findClass own = some m.cls) (hks : ∀ k ∈ ks, rm_okK own k) {i : Nat} : rm_KR p l e R s m args below meth c Q nL sz ext cA D (.ldc i) 2 (rm_ldc 2 (rm_lk ks i)) := by
  intro q r hd hf _ _ K ls H locs hl hR hS
  unfold rm_ldc at hf
  split at hf
  · rename_i a b d hk
    have hok := hks _ (rm_lk_mem hk)
    cases hf
    exact lv_ldc hx rfl hown (hts _ hok) hd (K ls H locs hl hR hS)
  · cases hf
theorem rm_s_ldcw (hx : p.tables.exec = Jvm.exec) (hts : ∀ w ∈ rm_tb, w.before args s = true) (hown : s.vm.findClass own = some m.cls) (hks : ∀ k ∈ ks, rm_okK own k) {i : Nat} : rm_KR p l e R s m args below meth c Q nL sz ext cA D (.ldc_w i) 3 (rm_ldc 3 (rm_lk ks i)) := by
  intro q r hd hf _ _ K ls H locs hl hR hS
  unfold rm_ldc at hf
  split at hf
  · rename_i a b d hk
    have hok := hks _ (rm_lk_mem hk)
    cases hf
    exact lv_ldcw hx rfl hown (hts _ hok) hd (K ls H locs hl hR hS)
  · cases hf
theorem rm_s_ldc2 (hx : p.tables.exec = Jvm.exec) (hts : ∀ w ∈ rm_tb, w.before args s = true) (hown : s.vm.findClass own = some m.cls) (hks : ∀ k ∈ ks, rm_okK own k) {i : Nat} : rm_KR p l e R s m args below meth c Q nL sz ext cA D (.ldc2_w i) 3 (rm_ldc2 (rm_lk ks i)) := by
  intro q r hd hf _ _ K ls H locs hl hR hS
  unfold rm_ldc2 at hf
  split at hf
  · rename_i a b d hk
    have hok := hks _ (rm_lk_mem hk)
    cases hf
    exact lv_ldc2 hx rfl hown (hts _ hok) hd (K ls H locs hl hR hS)
  · cases hf
theorem rm_s_ldcA (hx : p.tables.exec = Jvm.exec) (hts : ∀ w ∈ rm_tb, w.before args s = true) (hX : rm_X D cA sz ext L ys s) (hown : s.vm.findClass own = some m.cls) (hks : ∀ k ∈ ks, rm_okK own k) {i : Nat} : rm_KR p l e R s m args below meth c Q nL sz ext cA D (.ldc i) 2 (rm_ldcA (rm_lk ks i)) := by
  intro q r hd hf h1 h2 K
  unfold rm_ldcA at hf
  split at hf
  · rename_i u1 u2 u3 hk
    obtain ⟨ht, rfl, rfl⟩ := hks _ (rm_lk_mem hk)
    cases hf
    intro ls H locs hl hR hS
    exact va_ldcS hx rfl hown (hX.2.2.2.2.2.1 _ ht) hd (K ls H locs hl hR hS)
  · exact rm_s_ldc hx hts hown hks q r hd hf h1 h2 K
end RMH
