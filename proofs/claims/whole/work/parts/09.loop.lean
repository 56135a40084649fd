/-! CALLS, THE LOOP, METHODS, as relations: how long a run takes is not asked -/
/-- a method: its instructions, its links, its locals, what it answers (0 nothing, 1 int, 2 boolean, 3 long, 4 a reference), whether it is a constructor, of which class -/
abbrev rm_M : Type := List (Nat × Instr × Nat) × List rm_K5 × Nat × Nat × Bool × Nat
abbrev rm_Re : Type := Option Value × rm_H × rm_T
abbrev rm_Y : Type := MethodName × ByteArray × Nat × Option FieldType
/-- what a call of a method does: the method's number, its arguments, the heap before, what comes out -/
abbrev rm_CL : Type := Nat → List Value → rm_H → rm_Re → Prop
noncomputable def rm_find (cs : List (Nat × Instr × Nat)) (pc : Nat) : Option (Instr × Nat) := List.rec (motive := fun _ => Option (Instr × Nat)) none (fun q _ ih => cond (Nat.beq q.1 pc) (some q.2) ih) cs
theorem rm_find_mem {cs : List (Nat × Instr × Nat)} {pc : Nat} {k : Instr × Nat} (h : rm_find cs pc = some k) : (pc, k) ∈ cs := by
  induction cs with
  | nil => cases h
  | cons q r ih =>
    have h : cond (Nat.beq q.1 pc) (some q.2) (rm_find r pc) = some k := h
    cases hq : Nat.beq q.1 pc with
    | true =>
      rw [hq] at h
      have e : q.1 = pc := Nat.eq_of_beq_eq_true hq
      have h : some q.2 = some k := h
      cases h
      cases q
      cases e
      exact List.mem_cons_self
    | false =>
      rw [hq] at h
      exact List.mem_cons_of_mem _ (ih h)
def rm_ret (rt : Nat) (i : Instr) (n : Nat) (q : rm_N) : Option rm_Re := match i, q.2.2.1 with
  | .return_, [] => if n = 1 ∧ rt = 0 then some (none, q.2.2.2) else none
  | .ireturn, [.int v] => if n = 1 ∧ (rt = 1 ∨ (rt = 2 ∧ (v = 0 ∨ v = 1)) ∨ (rt = 5 ∧ v = 0)) then some (some (.int v), q.2.2.2) else none
  | .lreturn, [.long v] => if n = 1 ∧ rt = 3 then some (some (.long v), q.2.2.2) else none
  | .areturn, [.ref a] => if n = 1 ∧ rt = 4 then some (some (.ref a), q.2.2.2) else none
  | _, _ => none
def rm_ck : Instr → Option (Nat × Nat)
  | .invokestatic k => some (0, k)
  | .invokevirtual k => some (1, k)
  | .invokespecial k => some (2, k)
  | _ => none
def rm_cs (r : List Value) : Nat := (r.map fun v => v.category).sum
def rm_aft (q : rm_N) (rest : List Value) (res : rm_Re) : rm_N := (q.1 + 3, q.2.1, res.1.toList ++ rest, res.2.1, q.2.2.2.2.1 + res.2.2.1, q.2.2.2.2.2 + res.2.2.2)
def rm_invS (call : rm_CL) (mi na : Nat) (q r : rm_N) : Prop := na ≤ q.2.2.1.length ∧ rm_cs (q.2.2.1.drop na) ≤ 8 ∧ ∃ res, call mi (q.2.2.1.take na).reverse q.2.2.2.1 res ∧ r = rm_aft q (q.2.2.1.drop na) res
def rm_isObj (h : rm_H) (oc a : Nat) : Bool := match rm_obj h a with
  | some o => decide (o.1 = oc)
  | none => false
/-- a method or a constructor of a cell of the heap -/
def rm_invV (call : rm_CL) (oc mi na : Nat) (q r : rm_N) : Prop := ∃ a rest, q.2.2.1.drop na = .ref a :: rest ∧ rm_cs rest ≤ 8 ∧ rm_isObj q.2.2.2.1 oc a = true ∧ ∃ res, call mi (.ref a :: (q.2.2.1.take na).reverse) q.2.2.2.1 res ∧ r = rm_aft q rest res
/-- a method of a text -/
def rm_invF (call : rm_CL) (mi na : Nat) (q r : rm_N) : Prop := ∃ n rest, q.2.2.1.drop na = .retAddr n :: rest ∧ (n = 2 ∨ n = 4) ∧ rm_cs rest ≤ 8 ∧ ∃ res, call mi (.retAddr n :: (q.2.2.1.take na).reverse) q.2.2.2.1 res ∧ r = rm_aft q rest res
/-- Object's own constructor -/
def rm_invO (q : rm_N) : Option rm_N := match q.2.2.1 with
  | .ref _ :: rest => if rm_cs rest ≤ 8 then some (q.1 + 3, q.2.1, rest, q.2.2.2) else none
  | _ => none
def rm_inv (call : rm_CL) (P : Nat → rm_M) (kd : Nat) (k : Option (Nat × Nat × Nat × Nat)) (q r : rm_N) : Prop := match kd, k with
  | 0, some (3, mi, na, 0) => rm_invS call mi na q r
  | 0, some (3, _, _, 5) => rm_acopy q = some r
  | 1, some (3, mi, na, 1) => rm_invV call (P mi).2.2.2.2.2 mi na q r
  | 1, some (3, mi, na, 4) => rm_invF call mi na q r
  | 2, some (3, mi, na, 2) => rm_invV call (P mi).2.2.2.2.2 mi na q r
  | 2, some (3, _, _, 3) => rm_invO q = some r
  | _, _ => False
/-- one step -/
def rm_one (call : rm_CL) (P : Nat → rm_M) (M : rm_M) (L : Nat) (ys : Nat → Int32) (i : Instr) (n : Nat) (q r : rm_N) : Prop := match rm_ck i with
  | some kk => n = 3 ∧ rm_inv call P kk.1 (rm_lk M.2.1 kk.2) q r
  | none => ∃ g, rm_op M.2.2.1 M.2.2.2.2.1 M.2.2.2.2.2 M.2.1 L ys i n = some g ∧ g q = some r
def rm_ge (q r : rm_N) : Prop := q.2.2.2.2.1 ≤ r.2.2.2.2.1 ∧ q.2.2.2.2.2 ≤ r.2.2.2.2.2
/-- a run of f steps at most, to the method's end -/
noncomputable def rm_loop (call : rm_CL) (P : Nat → rm_M) (M : rm_M) (L : Nat) (ys : Nat → Int32) (f : Nat) : rm_N → rm_Re → Prop := Nat.rec (motive := fun _ => rm_N → rm_Re → Prop) (fun _ _ => False) (fun _ ih q res => ∃ i n, rm_find M.1 q.1 = some (i, n) ∧ (rm_ret M.2.2.2.1 i n q = some res ∨ ∃ r, rm_one call P M L ys i n q r ∧ rm_ge q r ∧ ih r res)) f
/-- a call whose calls lie at most d deep -/
noncomputable def rm_call (P : Nat → rm_M) (L : Nat) (ys : Nat → Int32) (d : Nat) : rm_CL := Nat.rec (motive := fun _ => rm_CL) (fun _ _ _ _ => False) (fun _ ih mi av h res => (lg_sl av).length ≤ (P mi).2.2.1 ∧ ∃ f, rm_loop ih P (P mi) L ys f (0, lv_args 0 av, [], h, 0, 0) res) d
-- what must hold of the tables
def rm_okN (mt : Nat → rm_Y) (nM mi na : Nat) : Prop := mi < nM ∧ Cond.code (mt mi).1 (mt mi).2.1 (mt mi).2.2.1 (mt mi).2.2.2 ∈ rm_tb ∧ Cond.initialized (mt mi).1.cls ∈ rm_tb ∧ ((mt mi).1.cls ≠ "java/lang/invoke/MethodHandle" ∧ (mt mi).1.cls ≠ "java/lang/invoke/VarHandle" ∧ (parseMethodDescriptor (mt mi).1.desc).map (fun d => d.parameters.length) = some na) ∧ (mt mi).2.2.1 ≤ 45
def rm_okM (mt : Nat → rm_Y) (P : Nat → rm_M) (nM : Nat) (own : String) (k : rm_K5) : Prop := match k with
  | (i, 3, mi, na, 0) => Cond.methodLink own i (mt mi).1 ∈ rm_tb ∧ Cond.static (mt mi).1 ∈ rm_tb ∧ rm_okN mt nM mi na
  | (i, 3, mi, na, 1) => Cond.methodLink own i (mt mi).1 ∈ rm_tb ∧ Cond.instanceMethod (mt mi).1 ∈ rm_tb ∧ Cond.selects (mt mi).1.cls (mt mi).1 (mt mi).1 ∈ rm_tb ∧ (∃ q, vwCl[(P mi).2.2.2.2.2]? = some q ∧ q.1 = (mt mi).1.cls) ∧ rm_okN mt nM mi na
  | (i, 3, mi, na, 2) => Cond.methodLink own i (mt mi).1 ∈ rm_tb ∧ Cond.instanceMethod (mt mi).1 ∈ rm_tb ∧ (mt mi).1.name = "<init>" ∧ (mt mi).2.2.2 = none ∧ (∃ q, vwCl[(P mi).2.2.2.2.2]? = some q ∧ q.1 = (mt mi).1.cls) ∧ rm_okN mt nM mi na
  | (i, 3, _, _, 5) => Cond.methodLink own i arraycopyName ∈ rm_tb ∧ Cond.native arraycopyName ∈ rm_tb ∧ Cond.static arraycopyName ∈ rm_tb ∧ Cond.initialized "java/lang/System" ∈ rm_tb
  | (i, 3, mi, na, 4) => Cond.methodLink own i (mt mi).1 ∈ rm_tb ∧ Cond.instanceMethod (mt mi).1 ∈ rm_tb ∧ Cond.selects (mt mi).1.cls (mt mi).1 (mt mi).1 ∈ rm_tb ∧ (mt mi).1.cls = "java/lang/String" ∧ rm_okN mt nM mi na
  | (i, 3, _, _, _) => Cond.methodLink own i objectInit ∈ rm_tb ∧ Cond.instanceMethod objectInit ∈ rm_tb ∧ Cond.code objectInit ⟨#[0xb1]⟩ 1 none ∈ rm_tb
  | _ => True
def rm_rm (d mc ms : Nat) : Room := { frames := d + 1, cells := mc, slots := ms, locals := 64 * (d + 1) }
def rm_Pc (D : va_G) (cA : Nat → ClassId) (sz : Nat) (ext : Nat → Nat) (L : Nat) (ys : Nat → Int32) (av : List Value) (h : rm_H) : Array Value → State → Prop := va_Pc (av.map (rm_v sz ext)) (fun U => rm_R D sz ext cA h U.heap ∧ rm_X D cA sz ext L ys U)
def rm_Qc (D : va_G) (cA : Nat → ClassId) (sz : Nat) (ext : Nat → Nat) (res : rm_Re) : Array Value → State → Outcome → State → Prop := fun _ st oc t => oc = .returned (res.1.map (rm_v sz ext)) ∧ rm_R D sz ext cA res.2.1 t.heap ∧ ∀ q : Nat, q < sz → t.heap[q]? = st.heap[q]?
def rm_Mt (l : Launch) (D : va_G) (cA : Nat → ClassId) (sz : Nat) (ext : Nat → Nat) (L : Nat) (ys : Nat → Int32) (mt : Nat → rm_Y) (d mi : Nat) (av : List Value) (h : rm_H) (res : rm_Re) : Prop :=
  Met l (mt mi).1 (Cond.code (mt mi).1 (mt mi).2.1 (mt mi).2.2.1 (mt mi).2.2.2 :: rm_tb) (rm_rm d res.2.2.1 res.2.2.2) (rm_Pc D cA sz ext L ys av h) (rm_Qc D cA sz ext res) res.2.2.1 res.2.2.2 (fun a => sz ≤ a)
theorem rm_G.same {sz : Nat} {ext : Nat → Nat} {u U : State} {H : Heap} (h : rm_G sz ext u H) (e1 : u.vm = U.vm) : rm_G sz ext U H := by
  have hal : u.vm.Alike U.vm := by rw [e1]; exact Vm.Alike.refl _
  exact ⟨fun t ht => (h.1 t ht).same e1.symm, h.2.1.moved hal, h.2.2.1.moved hal, h.2.2.2.1.moved hal, h.2.2.2.2.moved hal⟩
theorem rm_G.kept {sz : Nat} {ext : Nat → Nat} {U : State} {H H1 : Heap} (h : rm_G sz ext U H) (hq : ∀ q : Nat, q < sz → H1[q]? = H[q]?) : rm_G sz ext U H1 :=
  have z : ∀ a : Nat, a < H.size → ¬ (fun q => sz ≤ q) a → H1[a]? = H[a]? := fun a _ n => hq a (Nat.lt_of_not_le n)
  ⟨h.1, h.2.1.kept z, h.2.2.1.kept z, h.2.2.2.1.kept z, h.2.2.2.2.kept z⟩
theorem rm_G.warm {sz : Nat} {ext : Nat → Nat} {s U : State} {H : Heap} (h : rm_G sz ext s H) (hW : s.WarmedH U.vm) : rm_G sz ext U H :=
  ⟨fun t ht => (h.1 t ht).warm hW, h.2.1.moved hW.alike, h.2.2.1.moved hW.alike, h.2.2.2.1.moved hW.alike, h.2.2.2.2.moved hW.alike⟩
theorem rm_X.same {D : va_G} {cA : Nat → ClassId} {sz : Nat} {ext : Nat → Nat} {L : Nat} {ys : Nat → Int32} {u U : State} (hX : rm_X D cA sz ext L ys u) (e1 : u.vm = U.vm) (e2 : U.heap = u.heap) : rm_X D cA sz ext L ys U := by
  obtain ⟨h1, h2, h3, h4, h5, h6⟩ := hX
  have hal : u.vm.Alike U.vm := by rw [e1]; exact Vm.Alike.refl _
  exact ⟨h1.moved hal, fun t C h => (h2 t C h).moved hal, fun w hw => rm_nest_same hw e1 (h3 w hw), fun hL => ((h4 hL).moved hal).kept (by rw [e2]), h5, by rw [e2]; exact h6.same e1⟩
theorem rm_X.go {D : va_G} {cA : Nat → ClassId} {sz : Nat} {ext : Nat → Nat} {L : Nat} {ys : Nat → Int32} {s U : State} (hX : rm_X D cA sz ext L ys s) (hW : s.WarmedH U.vm) (e2 : ∀ q : Nat, q < sz → U.heap[q]? = s.heap[q]?) : rm_X D cA sz ext L ys U := by
  obtain ⟨h1, h2, h3, h4, h5, h6⟩ := hX
  exact ⟨h1.moved hW.alike, fun t C h => (h2 t C h).moved hW.alike, fun w hw => rm_nest_warm hw hW (h3 w hw), fun hL => ((h4 hL).moved hW.alike).kept (e2 _ h5), h5, (h6.warm hW).kept e2⟩
theorem rm_blind {D : va_G} {cA : Nat → ClassId} {sz : Nat} {ext : Nat → Nat} {L : Nat} {ys : Nat → Int32} {av : List Value} {h : rm_H} : FrameBlind (rm_Pc D cA sz ext L ys av h) := fun a U g mk q => ⟨q.1, q.2.1, rm_X.same (U := U.calling g mk a) q.2.2 rfl rfl⟩
theorem rm_good {mt : Nat → rm_Y} {mi : Nat} (h : Cond.code (mt mi).1 (mt mi).2.1 (mt mi).2.2.1 (mt mi).2.2.2 ∈ rm_tb) : GoodIn rm_tb (Cond.code (mt mi).1 (mt mi).2.1 (mt mi).2.2.1 (mt mi).2.2.2 :: rm_tb) := by
  intro w hw
  have hw : w ∈ rm_tb := by
    rcases List.mem_cons.mp hw with rfl | hw
    · exact h
    · exact hw
  exact ⟨hw, good_of_word (rm_tb_good w hw)⟩
theorem rm_cs_map (sz : Nat) (ext : Nat → Nat) (r : List Value) : ((r.map (rm_v sz ext)).map fun v => v.category).sum = rm_cs r := by
  unfold rm_cs
  rw [List.map_map]
  congr 2
  funext v
  exact rm_v_cat sz ext v
section RMC
variable {p : Program} {l : Launch} {e : Env} {R : Room} {s : State} {m : MethodId} {args : Array Value} {below : List Frame} {meth : Method} {c : Code} {Q : State → Prop}
variable {nL sz : Nat} {ext : Nat → Nat} {cA : Nat → ClassId} {D : va_G} {own : String} {L : Nat} {ys : Nat → Int32} {ks : List rm_K5} {mt : Nat → rm_Y} {P : Nat → rm_M} {nM d : Nat}
theorem rm_called {H : Heap} {locs : List Loc} {cells slots mc ms pc : Nat} {ls : Array Slot} {st0 rest : List Value} {a : Array Value} {res : rm_Re} (hr : va_Run p l e R s m args below meth c H locs cells slots mc ms (F0 m pc ls st0) rest (rm_Qc D cA sz ext res a) (fun a => sz ≤ a)) (hS : rm_S sz s.heap H locs)
    (kk : ∀ (H1 : Heap) (locs1 : List Loc), rm_R D sz ext cA res.2.1 H1 → rm_S sz s.heap H1 locs1 → W p l e R s m args below meth c H1 locs1 (cells + mc) (slots + ms) Q (F0 m (pc + 3) ls ((res.1.map (rm_v sz ext)).toList ++ rest))) : W p l e R s m args below meth c H locs cells slots Q (F0 m pc ls st0) := by
  intro T hT X
  obtain ⟨v, st₀, t, T', L9, h0, X', hL, e1, e2, ⟨hv, hR1, hk⟩, st⟩ := hr T hT X
  cases hv
  obtain ⟨t2, a1, b1⟩ := kk T'.heap (locs ++ L9) (by rw [e1]; exact hR1) ⟨fun q hq => by rw [e1, hk q hq, h0]; exact hS.1 q hq, fun q hq => by
    rcases List.mem_append.mp hq with h | h
    · exact hS.2 q h
    · exact hL q h⟩ T' rfl X'
  exact ⟨t2, st t2 a1, b1⟩
theorem rm_toList (sz : Nat) (ext : Nat → Nat) (v : Option Value) (r : List Value) : (v.toList ++ r).map (rm_v sz ext) = (v.map (rm_v sz ext)).toList ++ r.map (rm_v sz ext) := by
  rw [List.map_append]
  cases v <;> rfl
abbrev rm_KP (p : Program) (l : Launch) (e : Env) (R : Room) (s : State) (m : MethodId) (args : Array Value) (below : List Frame) (meth : Method) (c : Code) (Q : State → Prop) (nL sz : Nat) (ext : Nat → Nat) (cA : Nat → ClassId) (D : va_G) (i : Instr) (n : Nat) (f : rm_N → rm_N → Prop) : Prop :=
  ∀ (q r : rm_N), decode c.code q.1 = .ok (i, n) → f q r → r.2.2.2.2.1 ≤ R.cells → r.2.2.2.2.2 ≤ R.slots → rm_K p l e R s m args below meth c Q nL sz ext cA D r → rm_K p l e R s m args below meth c Q nL sz ext cA D q
theorem rm_invS_s (hx : p.tables.exec = Jvm.exec) (hml : c.maxLocals = nL) (hts : ∀ w ∈ rm_tb, w.before args s = true) (hX : rm_X D cA sz ext L ys s) (hown : s.vm.findClass own = some m.cls) (hfr : d + 2 ≤ R.frames) (hlo : 64 * (d + 2) ≤ R.locals) {call : rm_CL}
    (Hcall : ∀ (mi : Nat) (av : List Value) (h : rm_H) (res : rm_Re), call mi av h res → mi < nM → rm_Mt l D cA sz ext L ys mt d mi av h res) {i mi na : Nat} (hok : rm_okM mt P nM own (i, 3, mi, na, 0)) : rm_KP p l e R s m args below meth c Q nL sz ext cA D (.invokestatic i) 3 (rm_invS call mi na) := by
  intro q r hd hf hc1 hc2 K ls H locs hl hR hS
  obtain ⟨hn1, hn2, res, hres, rfl⟩ := hf
  obtain ⟨k1, k2, n1, n2, n3, n4, n5⟩ := hok
  have hM := Hcall _ _ _ _ hres n1
  have est : q.2.2.1.map (rm_v sz ext) = (((q.2.2.1.take na).reverse).map (rm_v sz ext)).reverse ++ (q.2.2.1.drop na).map (rm_v sz ext) := by
    rw [List.map_reverse, List.reverse_reverse, ← List.map_append, List.take_append_drop]
  refine rm_called (va_runS (As := ((q.2.2.1.take na).reverse).map (rm_v sz ext)) (rest := (q.2.2.1.drop na).map (rm_v sz ext)) (n := na) (Ts := rm_tb) ⟨hx, rfl, hml, hown, hts⟩ hM (va_cwS na hts (fun w hw => ?_) rfl rfl rfl n4 ⟨by show d + 1 + 1 ≤ _; omega, by show 8 + (_ + 11) + 64 * (d + 1) ≤ _; omega⟩) ⟨rm_blind, fun U hU hW => ⟨rfl, by rw [hU]; exact hR, hX.go hW (fun z hz => by rw [hU]; exact hS.1 z hz)⟩⟩ rfl ?_ hl.1 est (lv_room ?_) hd ⟨hc1, hc2⟩) hS ?_
  · unfold va_wsS at hw
    rcases List.mem_append.mp hw with hw | hw
    · simp only [List.mem_cons, List.not_mem_nil, or_false] at hw
      rcases hw with rfl | rfl | rfl
      · exact ⟨k1, good_of_word (rm_tb_good _ k1)⟩
      · exact ⟨k2, good_of_word (rm_tb_good _ k2)⟩
      · exact ⟨n3, good_of_word (rm_tb_good _ n3)⟩
    · exact rm_good n2 w hw
  · rw [List.length_map, List.length_reverse, List.length_take]; omega
  · rw [rm_cs_map]; exact hn2
  · intro H1 locs1 h1 h2
    have hk := K ls H1 locs1 hl h1 h2
    unfold rm_aft at hk
    dsimp only at hk
    rw [rm_toList] at hk
    exact hk
theorem rm_isObj_ok {h : rm_H} {oc a : Nat} (z : rm_isObj h oc a = true) : ∃ fs, rm_obj h a = some (oc, fs) := by
  unfold rm_isObj at z
  split at z
  · rename_i o ho9
    obtain ⟨c0, fs⟩ := o
    have z : c0 = oc := by simpa using z
    subst z
    exact ⟨fs, ho9⟩
  · cases z
theorem rm_invV_s (hx : p.tables.exec = Jvm.exec) (hml : c.maxLocals = nL) (hts : ∀ w ∈ rm_tb, w.before args s = true) (hX : rm_X D cA sz ext L ys s) (hown : s.vm.findClass own = some m.cls) (hfr : d + 2 ≤ R.frames) (hlo : 64 * (d + 2) ≤ R.locals) {call : rm_CL}
    (Hcall : ∀ (mi : Nat) (av : List Value) (h : rm_H) (res : rm_Re), call mi av h res → mi < nM → rm_Mt l D cA sz ext L ys mt d mi av h res) {i mi na : Nat} (hok : rm_okM mt P nM own (i, 3, mi, na, 1)) : rm_KP p l e R s m args below meth c Q nL sz ext cA D (.invokevirtual i) 3 (rm_invV call (P mi).2.2.2.2.2 mi na) := by
  intro q r hd hf hc1 hc2 K ls H locs hl hR hS
  obtain ⟨a, rest, hst, hn1, hn2, res, hres, rfl⟩ := hf
  obtain ⟨k1, k2, k3, ⟨vq, k4, k5⟩, n1, n2, n3, n4, n5⟩ := hok
  have hM := Hcall _ _ _ _ hres n1
  have hlen : (q.2.2.1.take na).length = na := by
    have : (q.2.2.1.drop na).length ≠ 0 := by rw [hst]; simp
    rw [List.length_drop] at this
    rw [List.length_take]; omega
  have est : q.2.2.1.map (rm_v sz ext) = (((q.2.2.1.take na).reverse).map (rm_v sz ext)).reverse ++ .ref (sz + a) :: rest.map (rm_v sz ext) := by
    have e0 : q.2.2.1 = q.2.2.1.take na ++ .ref a :: rest := by rw [← hst, List.take_append_drop]
    rw [List.map_reverse, List.reverse_reverse]
    conv => lhs; rw [e0]
    rw [List.map_append]; rfl
  obtain ⟨fs, ho1⟩ := rm_isObj_ok hn2
  refine rm_called (va_runV (As := ((q.2.2.1.take na).reverse).map (rm_v sz ext)) (rest := rest.map (rm_v sz ext)) (n := na) (Ts := rm_tb) (C := (mt mi).1.cls) (b := sz + a) ⟨hx, rfl, hml, hown, hts⟩ hM (cwV na hts (fun w hw => ?_) rfl rfl rfl ⟨rfl, n4⟩ ⟨by show d + 1 + 1 ≤ _; omega, by show 8 + (_ + 11) + 64 * (d + 1) ≤ _; omega⟩) ⟨rm_blind, ?_, fun U hU hW => ⟨rfl, by rw [hU]; exact hR, hX.go hW (fun z hz => by rw [hU]; exact hS.1 z hz)⟩⟩ rfl ?_ hl.1 est (lv_room ?_) hd ⟨hc1, hc2⟩) hS ?_
  · unfold wsV at hw
    rcases List.mem_append.mp hw with hw | hw
    · simp only [List.mem_cons, List.not_mem_nil, or_false] at hw
      rcases hw with rfl | rfl | rfl | rfl
      · exact ⟨k1, good_of_word (rm_tb_good _ k1)⟩
      · exact ⟨k2, good_of_word (rm_tb_good _ k2)⟩
      · exact ⟨k3, good_of_word (rm_tb_good _ k3)⟩
      · exact ⟨n3, good_of_word (rm_tb_good _ n3)⟩
    · exact rm_good n2 w hw
  · rw [← k5]
    exact va_recv hX.1 (rm_oneO hR (rm_obj_ok ho1)) (q0 := 0) k4 rfl
  · rw [List.length_map, List.length_reverse]; exact hlen
  · rw [rm_cs_map]; exact hn1
  · intro H1 locs1 h1 h2
    have hk := K ls H1 locs1 hl h1 h2
    unfold rm_aft at hk
    dsimp only at hk
    rw [rm_toList] at hk
    exact hk
theorem rm_invF_s (hx : p.tables.exec = Jvm.exec) (hml : c.maxLocals = nL) (hts : ∀ w ∈ rm_tb, w.before args s = true) (hX : rm_X D cA sz ext L ys s) (hown : s.vm.findClass own = some m.cls) (hfr : d + 2 ≤ R.frames) (hlo : 64 * (d + 2) ≤ R.locals) {call : rm_CL}
    (Hcall : ∀ (mi : Nat) (av : List Value) (h : rm_H) (res : rm_Re), call mi av h res → mi < nM → rm_Mt l D cA sz ext L ys mt d mi av h res) {i mi na : Nat} (hok : rm_okM mt P nM own (i, 3, mi, na, 4)) : rm_KP p l e R s m args below meth c Q nL sz ext cA D (.invokevirtual i) 3 (rm_invF call mi na) := by
  intro q r hd hf hc1 hc2 K ls H locs hl hR hS
  obtain ⟨n, rest, hst, hn2, hn1, res, hres, rfl⟩ := hf
  obtain ⟨k1, k2, k3, k5, n1, n2, n3, n4, n5⟩ := hok
  have hM := Hcall _ _ _ _ hres n1
  obtain ⟨t9, ht9, rfl⟩ := rm_t2 hn2
  have hlen : (q.2.2.1.take na).length = na := by
    have : (q.2.2.1.drop na).length ≠ 0 := by rw [hst]; simp
    rw [List.length_drop] at this
    rw [List.length_take]; omega
  have est : q.2.2.1.map (rm_v sz ext) = (((q.2.2.1.take na).reverse).map (rm_v sz ext)).reverse ++ .ref (ext (2 + 2 * t9)) :: rest.map (rm_v sz ext) := by
    have e0 : q.2.2.1 = q.2.2.1.take na ++ .retAddr (2 + 2 * t9) :: rest := by rw [← hst, List.take_append_drop]
    rw [List.map_reverse, List.reverse_reverse]
    conv => lhs; rw [e0]
    rw [List.map_append]; rfl
  refine rm_called (va_runV (As := ((q.2.2.1.take na).reverse).map (rm_v sz ext)) (rest := rest.map (rm_v sz ext)) (n := na) (Ts := rm_tb) (C := (mt mi).1.cls) (b := ext (2 + 2 * t9)) ⟨hx, rfl, hml, hown, hts⟩ hM (cwV na hts (fun w hw => ?_) rfl rfl rfl ⟨rfl, n4⟩ ⟨by show d + 1 + 1 ≤ _; omega, by show 8 + (_ + 11) + 64 * (d + 1) ≤ _; omega⟩) ⟨rm_blind, ?_, fun U hU hW => ⟨rfl, by rw [hU]; exact hR, hX.go hW (fun z hz => by rw [hU]; exact hS.1 z hz)⟩⟩ rfl ?_ hl.1 est (lv_room ?_) hd ⟨hc1, hc2⟩) hS ?_
  · unfold wsV at hw
    rcases List.mem_append.mp hw with hw | hw
    · simp only [List.mem_cons, List.not_mem_nil, or_false] at hw
      rcases hw with rfl | rfl | rfl | rfl
      · exact ⟨k1, good_of_word (rm_tb_good _ k1)⟩
      · exact ⟨k2, good_of_word (rm_tb_good _ k2)⟩
      · exact ⟨k3, good_of_word (rm_tb_good _ k3)⟩
      · exact ⟨n3, good_of_word (rm_tb_good _ n3)⟩
    · exact rm_good n2 w hw
  · rw [k5]
    obtain ⟨hv, -⟩ := hX.2.2.2.2.2.2.1.1 t9 ht9
    obtain ⟨cell, g1, g2, g3, -⟩ := hv.kept (rm_hq hS)
    exact ⟨cell, g1, g2, g3⟩
  · rw [List.length_map, List.length_reverse]; exact hlen
  · rw [rm_cs_map]; exact hn1
  · intro H1 locs1 h1 h2
    have hk := K ls H1 locs1 hl h1 h2
    unfold rm_aft at hk
    dsimp only at hk
    rw [rm_toList] at hk
    exact hk
theorem rm_invI_s (hx : p.tables.exec = Jvm.exec) (hml : c.maxLocals = nL) (hts : ∀ w ∈ rm_tb, w.before args s = true) (hX : rm_X D cA sz ext L ys s) (hown : s.vm.findClass own = some m.cls) (hfr : d + 2 ≤ R.frames) (hlo : 64 * (d + 2) ≤ R.locals) {call : rm_CL}
    (Hcall : ∀ (mi : Nat) (av : List Value) (h : rm_H) (res : rm_Re), call mi av h res → mi < nM → rm_Mt l D cA sz ext L ys mt d mi av h res) {i mi na : Nat} (hok : rm_okM mt P nM own (i, 3, mi, na, 2)) : rm_KP p l e R s m args below meth c Q nL sz ext cA D (.invokespecial i) 3 (rm_invV call (P mi).2.2.2.2.2 mi na) := by
  intro q r hd hf hc1 hc2 K ls H locs hl hR hS
  obtain ⟨a, rest, hst, hn1, hn2, res, hres, rfl⟩ := hf
  obtain ⟨k1, k2, k3, k4, k5, n1, n2, n3, n4, n5⟩ := hok
  have hM := Hcall _ _ _ _ hres n1
  have hlen : (q.2.2.1.take na).length = na := by
    have : (q.2.2.1.drop na).length ≠ 0 := by rw [hst]; simp
    rw [List.length_drop] at this
    rw [List.length_take]; omega
  have est : q.2.2.1.map (rm_v sz ext) = (((q.2.2.1.take na).reverse).map (rm_v sz ext)).reverse ++ .ref (sz + a) :: rest.map (rm_v sz ext) := by
    have e0 : q.2.2.1 = q.2.2.1.take na ++ .ref a :: rest := by rw [← hst, List.take_append_drop]
    rw [List.map_reverse, List.reverse_reverse]
    conv => lhs; rw [e0]
    rw [List.map_append]; rfl
  unfold rm_Mt at hM
  have hg := rm_good n2
  rw [k4] at hM hg
  refine rm_called (va_runI (As := ((q.2.2.1.take na).reverse).map (rm_v sz ext)) (rest := rest.map (rm_v sz ext)) (n := na) (Ts := rm_tb) (b := sz + a) ⟨hx, rfl, hml, hown, hts⟩ hM (cwI na hts hg rfl rfl rfl (hts _ n3) (hts _ k1) (hts _ k2) k3 n4 ⟨by show d + 1 + 1 ≤ _; omega, by show 8 + (_ + 11) + 64 * (d + 1) ≤ _; omega⟩) ⟨rm_blind, fun U hU hW => ⟨rfl, by rw [hU]; exact hR, hX.go hW (fun z hz => by rw [hU]; exact hS.1 z hz)⟩⟩ rfl (by rw [List.length_map, List.length_reverse]; exact hlen) hl.1 est (lv_room (by rw [rm_cs_map]; exact hn1)) hd ⟨hc1, hc2⟩) hS ?_
  · intro H1 locs1 h1 h2
    have hk := K ls H1 locs1 hl h1 h2
    unfold rm_aft at hk
    dsimp only at hk
    rw [rm_toList] at hk
    exact hk
theorem rm_invO_s (hx : p.tables.exec = Jvm.exec) (hml : c.maxLocals = nL) (hts : ∀ w ∈ rm_tb, w.before args s = true) (hown : s.vm.findClass own = some m.cls) (hfr : d + 2 ≤ R.frames) (hlo : 64 * (d + 2) ≤ R.locals) {i mi na : Nat} (hok : rm_okM mt P nM own (i, 3, mi, na, 3)) : rm_KA p l e R s m args below meth c Q nL sz ext cA D (.invokespecial i) 3 rm_invO := by
  intro q r hd hf hc1 hc2 K ls H locs hl hR hS
  unfold rm_invO at hf
  split at hf
  · rename_i a rest hst
    split at hf
    · rename_i hn
      cases hf
      obtain ⟨k1, k2, k3⟩ := hok
      have hk := K ls H locs hl hR hS
      rw [hst]
      refine W.objInit hx rfl hown (hts _ k1) (hts _ k2) (hts _ k3) rfl (by rw [hml]; exact hl.1) rfl hd (by omega) ?_ hk
      show 2 * 0 + _ + 12 ≤ _
      rw [rm_cs_map]
      omega
    · cases hf
  · cases hf
end RMC
