/-! CALLS, THE LOOP, METHODS -/
/-- a method: its instructions, its links, its locals, what it answers (0 nothing, 1 int, 2 boolean, 3 long, 4 a reference), whether it is a constructor, of which class -/
abbrev rm_M : Type := List (Nat × Instr × Nat) × List rm_K5 × Nat × Nat × Bool × Nat
abbrev rm_Re : Type := Option Value × rm_H × rm_T
abbrev rm_Y : Type := MethodName × ByteArray × Nat × Option FieldType
noncomputable def rm_find (cs : List (Nat × Instr × Nat)) (pc : Nat) : Option (Instr × Nat) := List.rec (motive := fun _ => Option (Instr × Nat)) none (fun q _ ih => cond (Nat.beq q.1 pc) (some q.2) ih) cs
theorem rm_find_mem {cs : List (Nat × Instr × Nat)} {pc : Nat} {k : Instr × Nat} (h : rm_find cs pc = some k) : (pc, k) ∈ cs := by
  induction cs with
  | nil => cases h
  | cons q r ih =>
    have h : cond (Nat.beq q.1 pc) (some q.2) (rm_find r pc) = some k := h
    cases hq : Nat.beq q.1 pc with
    | true =>
      rw [hq] at h
      have e : q.1 = pc := Nat.eq_of_beq_eq_true hq
      have h : some q.2 = some k := h
      cases h
      cases q
      cases e
      exact List.mem_cons_self
    | false =>
      rw [hq] at h
      exact List.mem_cons_of_mem _ (ih h)
def rm_ret (rt : Nat) (i : Instr) (n : Nat) (q : rm_N) : Option rm_Re := match i, q.2.2.1 with
  | .return_, [] => if n = 1 ∧ rt = 0 then some (none, q.2.2.2) else none
  | .ireturn, [.int v] => if n = 1 ∧ (rt = 1 ∨ (rt = 2 ∧ (v = 0 ∨ v = 1)) ∨ (rt = 5 ∧ v = 0)) then some (some (.int v), q.2.2.2) else none
  | .lreturn, [.long v] => if n = 1 ∧ rt = 3 then some (some (.long v), q.2.2.2) else none
  | .areturn, [.ref a] => if n = 1 ∧ rt = 4 then some (some (.ref a), q.2.2.2) else none
  | _, _ => none
def rm_ck : Instr → Option (Nat × Nat)
  | .invokestatic k => some (0, k)
  | .invokevirtual k => some (1, k)
  | .invokespecial k => some (2, k)
  | _ => none
def rm_cs (r : List Value) : Nat := (r.map fun v => v.category).sum
def rm_aft (q : rm_N) (rest : List Value) (res : rm_Re) : rm_N := (q.1 + 3, q.2.1, res.1.toList ++ rest, res.2.1, q.2.2.2.2.1 + res.2.2.1, q.2.2.2.2.2.1 + res.2.2.2.1, res.2.2.2.2)
def rm_invS (call : Nat → List Value → rm_H → List Nat → Option rm_Re) (mi na : Nat) (q : rm_N) : Option rm_N :=
  if na ≤ q.2.2.1.length ∧ rm_cs (q.2.2.1.drop na) ≤ 8 then match call mi (q.2.2.1.take na).reverse q.2.2.2.1 q.2.2.2.2.2.2.1 with
    | some res => some (rm_aft q (q.2.2.1.drop na) res)
    | none => none
  else none
def rm_isObj (h : rm_H) (oc a : Nat) : Bool := match rm_obj h a with
  | some o => decide (o.1 = oc)
  | none => false
def rm_invR (call : Nat → List Value → rm_H → List Nat → Option rm_Re) (chk : Nat → Bool) (mi na : Nat) (q : rm_N) : Option rm_N := match q.2.2.1.drop na with
  | .ref a :: rest => if rm_cs rest ≤ 8 ∧ chk a = true then match call mi (.ref a :: (q.2.2.1.take na).reverse) q.2.2.2.1 q.2.2.2.2.2.2.1 with
      | some res => some (rm_aft q rest res)
      | none => none
    else none
  | _ => none
/-- a method of the text -/
def rm_invF (call : Nat → List Value → rm_H → List Nat → Option rm_Re) (mi na : Nat) (q : rm_N) : Option rm_N := match q.2.2.1.drop na with
  | .retAddr 2 :: rest => if rm_cs rest ≤ 8 then match call mi (.retAddr 2 :: (q.2.2.1.take na).reverse) q.2.2.2.1 q.2.2.2.2.2.2.1 with
      | some res => some (rm_aft q rest res)
      | none => none
    else none
  | _ => none
def rm_nr : Value → Bool
  | .ref _ => false
  | _ => true
def rm_shv (k : Nat) : Value → Value
  | .ref j => .ref (k + j)
  | v => v
def rm_sh (k : Nat) : va_E → va_E
  | .inl a => .inl (a.1, rm_a k a.2)
  | .inr o => .inr (o.1, o.2.map (rm_shv k))
/-- a constructor on the newest cell: it runs in a heap of its own, and what it made is laid behind what was there -/
def rm_invI (call : Nat → List Value → rm_H → List Nat → Option rm_Re) (mi na : Nat) (q : rm_N) : Option rm_N := match q.2.2.1.drop na with
  | .ref a :: rest => match rm_obj q.2.2.2.1 a with
    | some o => if rm_cs rest ≤ 8 ∧ a + 1 = q.2.2.2.1.length ∧ (q.2.2.1.take na).all rm_nr = true ∧ o.2.all rm_nr = true then match call mi (.ref 0 :: (q.2.2.1.take na).reverse) [.inr o] q.2.2.2.2.2.2.1 with
        | some (none, h', t') => some (q.1 + 3, q.2.1, rest, q.2.2.2.1.take a ++ h'.map (rm_sh a), q.2.2.2.2.1 + t'.1, q.2.2.2.2.2.1 + t'.2.1, t'.2.2)
        | _ => none
      else none
    | none => none
  | _ => none
def rm_invO (q : rm_N) : Option rm_N := match q.2.2.1 with
  | .ref _ :: rest => if rm_cs rest ≤ 8 then some (q.1 + 3, q.2.1, rest, q.2.2.2) else none
  | _ => none
def rm_inv (call : Nat → List Value → rm_H → List Nat → Option rm_Re) (P : Nat → rm_M) (kd n : Nat) (k : Option (Nat × Nat × Nat × Nat)) (q : rm_N) : Option rm_N := match n, kd, k with
  | 3, 0, some (3, mi, na, 0) => rm_invS call mi na q
  | 3, 1, some (3, mi, na, 1) => rm_invR call (rm_isObj q.2.2.2.1 (P mi).2.2.2.2.2) mi na q
  | 3, 1, some (3, mi, na, 4) => rm_invF call mi na q
  | 3, 2, some (3, mi, na, 2) => rm_invI call mi na q
  | 3, 2, some (3, _, _, 3) => rm_invO q
  | _, _, _ => none
/-- with all symbolic branches as they should be, so far -/
def rm_t1 (q : rm_N) : rm_N := (q.1, q.2.1, q.2.2.1, q.2.2.2.1, q.2.2.2.2.1, q.2.2.2.2.2.1, q.2.2.2.2.2.2.1, true)
def rm_tk (b : Bool) (q : rm_N) : rm_N := (q.1, q.2.1, q.2.2.1, q.2.2.2.1, q.2.2.2.2.1, q.2.2.2.2.2.1, q.2.2.2.2.2.2.1, q.2.2.2.2.2.2.2 && b)
def rm_ge (q r : rm_N) : Bool := Nat.ble q.2.2.2.2.1 r.2.2.2.2.1 && Nat.ble q.2.2.2.2.2.1 r.2.2.2.2.2.1
def rm_one1 (call : Nat → List Value → rm_H → List Nat → Option rm_Re) (P : Nat → rm_M) (M : rm_M) (L : Nat) (xs : rm_F) (i : Instr) (n : Nat) (q : rm_N) : Option rm_N := match rm_ck i with
  | some kk => rm_inv call P kk.1 n (rm_lk M.2.1 kk.2) q
  | none => match rm_op M.2.2.1 M.2.2.2.2.1 M.2.2.2.2.2 M.2.1 L xs i n with
    | some g => g q
    | none => none
noncomputable def rm_fl {α β : Type} (l : List α) : (List α → β) → β := List.rec (motive := fun _ => (List α → β) → β) (fun k => k []) (fun x _ ih k => ih (fun ys => k (x :: ys))) l
def rm_fn {β : Type} (n : Nat) (k : Nat → β) : β := match n with
  | 0 => k 0
  | m + 1 => k (m + 1)
theorem rm_fl_eq {α β : Type} (l : List α) : ∀ k : List α → β, rm_fl l k = k l := by
  induction l with
  | nil => intro k; rfl
  | cons x l ih => intro k; exact ih (fun ys => k (x :: ys))
theorem rm_fn_eq {β : Type} (n : Nat) (k : Nat → β) : rm_fn n k = k n := by cases n <;> rfl
def rm_mod : Instr → Bool
  | .putfield _ | .new _ | .newarray _ | .anewarray _ | .iastore | .lastore | .castore | .aastore | .invokespecial _ => true
  | _ => false
noncomputable def rm_force {β : Type} (b : Bool) (r : rm_N) (k : rm_N → β) : β := match r with
  | (pc, lv, st, h, uc, us, orc, ok) => rm_fn pc (fun pc => rm_fl lv (fun lv => rm_fl st (fun st => rm_fn uc (fun uc => rm_fn us (fun us => rm_fl orc (fun orc => match b with
    | true => rm_fl h (fun h => k (pc, lv, st, h, uc, us, orc, ok))
    | false => k (pc, lv, st, h, uc, us, orc, ok)))))))
theorem rm_force_eq {β : Type} (b : Bool) (r : rm_N) (k : rm_N → β) : rm_force b r k = k r := by
  obtain ⟨pc, lv, st, h, uc, us, orc, ok⟩ := r
  unfold rm_force
  simp only [rm_fn_eq, rm_fl_eq]
  cases b <;> rfl
noncomputable def rm_body (call : Nat → List Value → rm_H → List Nat → Option rm_Re) (P : Nat → rm_M) (M : rm_M) (L : Nat) (xs : rm_F) (q : rm_N) (ih : rm_N → Option rm_Re) : Option rm_Re := match rm_find M.1 q.1 with
    | none => none
    | some ii => match rm_ret M.2.2.2.1 ii.1 ii.2 q with
      | some res => some res
      | none => match rm_one1 call P M L xs ii.1 ii.2 (rm_t1 q) with
        | some r => cond (rm_ge q r) (rm_force (rm_mod ii.1) (rm_tk q.2.2.2.2.2.2.2 r) ih) none
        | none => none
noncomputable def rm_loop (call : Nat → List Value → rm_H → List Nat → Option rm_Re) (P : Nat → rm_M) (M : rm_M) (L : Nat) (xs : rm_F) (f : Nat) : rm_N → Option rm_Re := Nat.rec (motive := fun _ => rm_N → Option rm_Re) (fun _ => none) (fun _ ih q => rm_body call P M L xs q ih) f
noncomputable def rm_meth (P : Nat → rm_M) (L : Nat) (xs : rm_F) (d : Nat) : Nat → List Value → rm_H → List Nat → Option rm_Re := Nat.rec (motive := fun _ => Nat → List Value → rm_H → List Nat → Option rm_Re) (fun _ _ _ _ => none) (fun _ ih mi av h orc => if (lg_sl av).length ≤ (P mi).2.2.1 then rm_loop ih P (P mi) L xs 3000 (0, lv_args 0 av, [], h, 0, 0, orc, true) else none) d
-- what must hold of the tables
def rm_okN (mt : Nat → rm_Y) (nM mi na : Nat) : Prop := mi < nM ∧ Cond.code (mt mi).1 (mt mi).2.1 (mt mi).2.2.1 (mt mi).2.2.2 ∈ rm_tb ∧ Cond.initialized (mt mi).1.cls ∈ rm_tb ∧ ((mt mi).1.cls ≠ "java/lang/invoke/MethodHandle" ∧ (mt mi).1.cls ≠ "java/lang/invoke/VarHandle" ∧ (parseMethodDescriptor (mt mi).1.desc).map (fun d => d.parameters.length) = some na) ∧ (mt mi).2.2.1 ≤ 45
def rm_okM (mt : Nat → rm_Y) (P : Nat → rm_M) (nM : Nat) (own : String) (k : rm_K5) : Prop := match k with
  | (i, 3, mi, na, 0) => Cond.methodLink own i (mt mi).1 ∈ rm_tb ∧ Cond.static (mt mi).1 ∈ rm_tb ∧ rm_okN mt nM mi na
  | (i, 3, mi, na, 1) => Cond.methodLink own i (mt mi).1 ∈ rm_tb ∧ Cond.instanceMethod (mt mi).1 ∈ rm_tb ∧ Cond.selects (mt mi).1.cls (mt mi).1 (mt mi).1 ∈ rm_tb ∧ (∃ q, vwCl[(P mi).2.2.2.2.2]? = some q ∧ q.1 = (mt mi).1.cls) ∧ rm_okN mt nM mi na
  | (i, 3, mi, na, 2) => Cond.methodLink own i (mt mi).1 ∈ rm_tb ∧ Cond.instanceMethod (mt mi).1 ∈ rm_tb ∧ (mt mi).1.name = "<init>" ∧ (mt mi).2.2.2 = none ∧ rm_okN mt nM mi na
  | (i, 3, mi, na, 4) => Cond.methodLink own i (mt mi).1 ∈ rm_tb ∧ Cond.instanceMethod (mt mi).1 ∈ rm_tb ∧ Cond.selects (mt mi).1.cls (mt mi).1 (mt mi).1 ∈ rm_tb ∧ (mt mi).1.cls = "java/lang/String" ∧ rm_okN mt nM mi na
  | (i, 3, _, _, _) => Cond.methodLink own i objectInit ∈ rm_tb ∧ Cond.instanceMethod objectInit ∈ rm_tb ∧ Cond.code objectInit ⟨#[0xb1]⟩ 1 none ∈ rm_tb
  | _ => True
def rm_rm (d mc ms : Nat) : Room := { frames := d + 1, cells := mc, slots := ms, locals := 64 * (d + 1) }
def rm_Pc (D : va_G) (cA : Nat → ClassId) (sz : Nat) (ext : Nat → Nat) (L : Nat) (xs : rm_F) (av : List Value) (h : rm_H) : Array Value → State → Prop := va_Pc (av.map (rm_v sz ext)) (fun U => rm_R D sz ext cA h U.heap ∧ rm_X D cA sz ext L xs U)
def rm_Qc (D : va_G) (cA : Nat → ClassId) (sz : Nat) (ext : Nat → Nat) (res : rm_Re) : Array Value → State → Outcome → State → Prop := fun _ st oc t => oc = .returned (res.1.map (rm_v sz ext)) ∧ rm_R D sz ext cA res.2.1 t.heap ∧ ∀ q : Nat, q < sz → t.heap[q]? = st.heap[q]?
def rm_Mt (l : Launch) (D : va_G) (cA : Nat → ClassId) (sz : Nat) (ext : Nat → Nat) (L : Nat) (xs : rm_F) (mt : Nat → rm_Y) (d mi : Nat) (av : List Value) (h : rm_H) (res : rm_Re) : Prop :=
  Met l (mt mi).1 (Cond.code (mt mi).1 (mt mi).2.1 (mt mi).2.2.1 (mt mi).2.2.2 :: rm_tb) (rm_rm d res.2.2.1 res.2.2.2.1) (rm_Pc D cA sz ext L xs av h) (rm_Qc D cA sz ext res) res.2.2.1 res.2.2.2.1 (fun a => sz ≤ a)
theorem rm_X.same {D : va_G} {cA : Nat → ClassId} {sz : Nat} {ext : Nat → Nat} {L : Nat} {xs : rm_F} {u U : State} (hX : rm_X D cA sz ext L xs u) (e1 : u.vm = U.vm) (e2 : U.heap = u.heap) : rm_X D cA sz ext L xs U := by
  obtain ⟨h1, h2, h3, h4, ⟨h5, k1, k2, k3⟩, h7⟩ := hX
  have hal : u.vm.Alike U.vm := by rw [e1]; exact Vm.Alike.refl _
  exact ⟨h1.moved hal, fun t C h => (h2 t C h).moved hal, fun w hw => rm_nest_same hw e1 (h3 w hw), fun hL => by obtain ⟨ys, g4, g6⟩ := h4 hL; exact ⟨ys, (g4.moved hal).kept (by rw [e2]), g6⟩, ⟨h5, k1.same e1.symm, (k2.moved hal).kept (fun a _ _ => by rw [e2]), (k3.moved hal).kept (fun a _ _ => by rw [e2])⟩, h7⟩
theorem rm_X.go {D : va_G} {cA : Nat → ClassId} {sz : Nat} {ext : Nat → Nat} {L : Nat} {xs : rm_F} {s U : State} (hX : rm_X D cA sz ext L xs s) (hW : s.WarmedH U.vm) (e2 : ∀ q : Nat, q < sz → U.heap[q]? = s.heap[q]?) : rm_X D cA sz ext L xs U := by
  obtain ⟨h1, h2, h3, h4, ⟨h5, k1, k2, k3⟩, h7⟩ := hX
  exact ⟨h1.moved hW.alike, fun t C h => (h2 t C h).moved hW.alike, fun w hw => rm_nest_warm hw hW (h3 w hw), fun hL => by obtain ⟨ys, g4, g6⟩ := h4 hL; exact ⟨ys, (g4.moved hW.alike).kept (e2 _ h5), g6⟩, ⟨h5, k1.warm hW, (k2.moved hW.alike).kept (fun a _ h => e2 a (Nat.lt_of_not_le h)), (k3.moved hW.alike).kept (fun a _ h => e2 a (Nat.lt_of_not_le h))⟩, h7⟩
theorem rm_blind {D : va_G} {cA : Nat → ClassId} {sz : Nat} {ext : Nat → Nat} {L : Nat} {xs : rm_F} {av : List Value} {h : rm_H} : FrameBlind (rm_Pc D cA sz ext L xs av h) := fun a U g mk q => ⟨q.1, q.2.1, rm_X.same (U := U.calling g mk a) q.2.2 rfl rfl⟩
theorem rm_good {mt : Nat → rm_Y} {mi : Nat} (h : Cond.code (mt mi).1 (mt mi).2.1 (mt mi).2.2.1 (mt mi).2.2.2 ∈ rm_tb) : GoodIn rm_tb (Cond.code (mt mi).1 (mt mi).2.1 (mt mi).2.2.1 (mt mi).2.2.2 :: rm_tb) := by
  intro w hw
  have hw : w ∈ rm_tb := by
    rcases List.mem_cons.mp hw with rfl | hw
    · exact h
    · exact hw
  exact ⟨hw, good_of_word (rm_tb_good w hw)⟩
theorem rm_cs_map (sz : Nat) (ext : Nat → Nat) (r : List Value) : ((r.map (rm_v sz ext)).map fun v => v.category).sum = rm_cs r := by
  unfold rm_cs
  rw [List.map_map]
  congr 2
  funext v
  exact rm_v_cat sz ext v
section RMC
variable {p : Program} {l : Launch} {e : Env} {R : Room} {s : State} {m : MethodId} {args : Array Value} {below : List Frame} {meth : Method} {c : Code} {Q : State → Prop}
variable {nL sz : Nat} {ext : Nat → Nat} {cA : Nat → ClassId} {D : va_G} {own : String} {L : Nat} {xs : rm_F} {ks : List rm_K5} {mt : Nat → rm_Y} {P : Nat → rm_M} {nM d : Nat}
theorem rm_call {H : Heap} {locs : List Loc} {cells slots mc ms pc : Nat} {ls : Array Slot} {st0 rest : List Value} {a : Array Value} {res : rm_Re} (hr : va_Run p l e R s m args below meth c H locs cells slots mc ms (F0 m pc ls st0) rest (rm_Qc D cA sz ext res a) (fun a => sz ≤ a)) (hS : rm_S sz s.heap H locs)
    (kk : ∀ (H1 : Heap) (locs1 : List Loc), rm_R D sz ext cA res.2.1 H1 → rm_S sz s.heap H1 locs1 → W p l e R s m args below meth c H1 locs1 (cells + mc) (slots + ms) Q (F0 m (pc + 3) ls ((res.1.map (rm_v sz ext)).toList ++ rest))) : W p l e R s m args below meth c H locs cells slots Q (F0 m pc ls st0) := by
  intro T hT X
  obtain ⟨v, st₀, t, T', L9, h0, X', hL, e1, e2, ⟨hv, hR1, hk⟩, st⟩ := hr T hT X
  cases hv
  obtain ⟨t2, a1, b1⟩ := kk T'.heap (locs ++ L9) (by rw [e1]; exact hR1) ⟨fun q hq => by rw [e1, hk q hq, h0]; exact hS.1 q hq, fun q hq => by
    rcases List.mem_append.mp hq with h | h
    · exact hS.2 q h
    · exact hL q h⟩ T' rfl X'
  exact ⟨t2, st t2 a1, b1⟩
theorem rm_toList (sz : Nat) (ext : Nat → Nat) (v : Option Value) (r : List Value) : (v.toList ++ r).map (rm_v sz ext) = (v.map (rm_v sz ext)).toList ++ r.map (rm_v sz ext) := by
  rw [List.map_append]
  cases v <;> rfl
theorem rm_invS_s (hx : p.tables.exec = Jvm.exec) (hml : c.maxLocals = nL) (hts : ∀ w ∈ rm_tb, w.before args s = true) (hX : rm_X D cA sz ext L xs s) (hown : s.vm.findClass own = some m.cls) (hfr : d + 2 ≤ R.frames) (hlo : 64 * (d + 2) ≤ R.locals) {call : Nat → List Value → rm_H → List Nat → Option rm_Re}
    (Hcall : ∀ (z mi : Nat) (av : List Value) (h : rm_H) (orc : List Nat) (res : rm_Re), call mi av h orc = some res → res.2.2.2.2.2 = true → mi < nM → rm_Mt l D cA z ext L xs mt d mi av h res) {i mi na : Nat} (hok : rm_okM mt P nM own (i, 3, mi, na, 0)) : rm_KA p l e R s m args below meth c Q nL sz ext cA D (.invokestatic i) 3 (rm_invS call mi na) := by
  intro q r hd hf ho hc1 hc2 K ls H locs hl hR hS
  unfold rm_invS at hf
  split at hf
  · rename_i hn
    split at hf
    · rename_i res hres
      cases hf
      obtain ⟨k1, k2, n1, n2, n3, n4, n5⟩ := hok
      have hM := Hcall sz _ _ _ _ _ hres ho n1
      have est : q.2.2.1.map (rm_v sz ext) = (((q.2.2.1.take na).reverse).map (rm_v sz ext)).reverse ++ (q.2.2.1.drop na).map (rm_v sz ext) := by
        rw [List.map_reverse, List.reverse_reverse, ← List.map_append, List.take_append_drop]
      refine rm_call (va_runS (As := ((q.2.2.1.take na).reverse).map (rm_v sz ext)) (rest := (q.2.2.1.drop na).map (rm_v sz ext)) (n := na) (Ts := rm_tb) ⟨hx, rfl, hml, hown, hts⟩ hM (va_cwS na hts (fun w hw => ?_) rfl rfl rfl n4 ⟨by show d + 1 + 1 ≤ _; omega, by show 8 + (_ + 11) + 64 * (d + 1) ≤ _; omega⟩) ⟨rm_blind, fun U hU hW => ⟨rfl, by rw [hU]; exact hR, hX.go hW (fun z hz => by rw [hU]; exact hS.1 z hz)⟩⟩ rfl ?_ hl.1 est (lv_room ?_) hd ⟨hc1, hc2⟩) hS ?_
      · unfold va_wsS at hw
        rcases List.mem_append.mp hw with hw | hw
        · simp only [List.mem_cons, List.not_mem_nil, or_false] at hw
          rcases hw with rfl | rfl | rfl
          · exact ⟨k1, good_of_word (rm_tb_good _ k1)⟩
          · exact ⟨k2, good_of_word (rm_tb_good _ k2)⟩
          · exact ⟨n3, good_of_word (rm_tb_good _ n3)⟩
        · exact rm_good n2 w hw
      · rw [List.length_map, List.length_reverse, List.length_take]; omega
      · rw [rm_cs_map]; exact hn.2
      · intro H1 locs1 h1 h2
        have hk := K ls H1 locs1 hl h1 h2
        unfold rm_aft at hk
        dsimp only at hk
        rw [rm_toList] at hk
        exact hk
    · cases hf
  · cases hf
theorem rm_invV_s (hx : p.tables.exec = Jvm.exec) (hml : c.maxLocals = nL) (hts : ∀ w ∈ rm_tb, w.before args s = true) (hX : rm_X D cA sz ext L xs s) (hown : s.vm.findClass own = some m.cls) (hfr : d + 2 ≤ R.frames) (hlo : 64 * (d + 2) ≤ R.locals) {call : Nat → List Value → rm_H → List Nat → Option rm_Re}
    (Hcall : ∀ (z mi : Nat) (av : List Value) (h : rm_H) (orc : List Nat) (res : rm_Re), call mi av h orc = some res → res.2.2.2.2.2 = true → mi < nM → rm_Mt l D cA z ext L xs mt d mi av h res) {i mi na : Nat} (hok : rm_okM mt P nM own (i, 3, mi, na, 1)) : rm_KA p l e R s m args below meth c Q nL sz ext cA D (.invokevirtual i) 3 (fun q => rm_invR call (rm_isObj q.2.2.2.1 (P mi).2.2.2.2.2) mi na q) := by
  intro q r hd hf ho hc1 hc2 K ls H locs hl hR hS
  unfold rm_invR at hf
  dsimp only at hf
  split at hf
  · rename_i a rest hst
    split at hf
    · rename_i hn
      split at hf
      · rename_i res hres
        cases hf
        obtain ⟨k1, k2, k3, ⟨vq, k4, k5⟩, n1, n2, n3, n4, n5⟩ := hok
        have hM := Hcall sz _ _ _ _ _ hres ho n1
        have hlen : (q.2.2.1.take na).length = na := by
          have : (q.2.2.1.drop na).length ≠ 0 := by rw [hst]; simp
          rw [List.length_drop] at this
          rw [List.length_take]; omega
        have est : q.2.2.1.map (rm_v sz ext) = (((q.2.2.1.take na).reverse).map (rm_v sz ext)).reverse ++ .ref (sz + a) :: rest.map (rm_v sz ext) := by
          have e0 : q.2.2.1 = q.2.2.1.take na ++ .ref a :: rest := by rw [← hst, List.take_append_drop]
          rw [List.map_reverse, List.reverse_reverse]
          conv => lhs; rw [e0]
          rw [List.map_append]; rfl
        have hobj : ∃ o, rm_obj q.2.2.2.1 a = some o ∧ o.1 = (P mi).2.2.2.2.2 := by
          have z := hn.2
          unfold rm_isObj at z
          split at z
          · rename_i o ho9; exact ⟨o, ho9, by simpa using z⟩
          · cases z
        obtain ⟨o, ho1, ho2⟩ := hobj
        obtain ⟨ci, fs⟩ := o
        have ho2 : ci = (P mi).2.2.2.2.2 := ho2
        subst ho2
        refine rm_call (va_runV (As := ((q.2.2.1.take na).reverse).map (rm_v sz ext)) (rest := rest.map (rm_v sz ext)) (n := na) (Ts := rm_tb) (C := (mt mi).1.cls) (b := sz + a) ⟨hx, rfl, hml, hown, hts⟩ hM (cwV na hts (fun w hw => ?_) rfl rfl rfl ⟨rfl, n4⟩ ⟨by show d + 1 + 1 ≤ _; omega, by show 8 + (_ + 11) + 64 * (d + 1) ≤ _; omega⟩) ⟨rm_blind, ?_, fun U hU hW => ⟨rfl, by rw [hU]; exact hR, hX.go hW (fun z hz => by rw [hU]; exact hS.1 z hz)⟩⟩ rfl ?_ hl.1 est (lv_room ?_) hd ⟨hc1, hc2⟩) hS ?_
        · unfold wsV at hw
          rcases List.mem_append.mp hw with hw | hw
          · simp only [List.mem_cons, List.not_mem_nil, or_false] at hw
            rcases hw with rfl | rfl | rfl | rfl
            · exact ⟨k1, good_of_word (rm_tb_good _ k1)⟩
            · exact ⟨k2, good_of_word (rm_tb_good _ k2)⟩
            · exact ⟨k3, good_of_word (rm_tb_good _ k3)⟩
            · exact ⟨n3, good_of_word (rm_tb_good _ n3)⟩
          · exact rm_good n2 w hw
        · rw [← k5]
          exact va_recv hX.1 (rm_oneO hR (rm_obj_ok ho1)) (q0 := 0) k4 rfl
        · rw [List.length_map, List.length_reverse]; exact hlen
        · rw [rm_cs_map]; exact hn.1
        · intro H1 locs1 h1 h2
          have hk := K ls H1 locs1 hl h1 h2
          unfold rm_aft at hk
          dsimp only at hk
          rw [rm_toList] at hk
          exact hk
      · cases hf
    · cases hf
  · cases hf
theorem rm_invF_s (hx : p.tables.exec = Jvm.exec) (hml : c.maxLocals = nL) (hts : ∀ w ∈ rm_tb, w.before args s = true) (hX : rm_X D cA sz ext L xs s) (hown : s.vm.findClass own = some m.cls) (hfr : d + 2 ≤ R.frames) (hlo : 64 * (d + 2) ≤ R.locals) {call : Nat → List Value → rm_H → List Nat → Option rm_Re}
    (Hcall : ∀ (z mi : Nat) (av : List Value) (h : rm_H) (orc : List Nat) (res : rm_Re), call mi av h orc = some res → res.2.2.2.2.2 = true → mi < nM → rm_Mt l D cA z ext L xs mt d mi av h res) {i mi na : Nat} (hok : rm_okM mt P nM own (i, 3, mi, na, 4)) : rm_KA p l e R s m args below meth c Q nL sz ext cA D (.invokevirtual i) 3 (rm_invF call mi na) := by
  intro q r hd hf ho hc1 hc2 K ls H locs hl hR hS
  unfold rm_invF at hf
  split at hf
  · rename_i rest hst
    split at hf
    · rename_i hn
      split at hf
      · rename_i res hres
        cases hf
        obtain ⟨k1, k2, k3, k5, n1, n2, n3, n4, n5⟩ := hok
        have hM := Hcall sz _ _ _ _ _ hres ho n1
        have hlen : (q.2.2.1.take na).length = na := by
          have : (q.2.2.1.drop na).length ≠ 0 := by rw [hst]; simp
          rw [List.length_drop] at this
          rw [List.length_take]; omega
        have est : q.2.2.1.map (rm_v sz ext) = (((q.2.2.1.take na).reverse).map (rm_v sz ext)).reverse ++ .ref (ext 2) :: rest.map (rm_v sz ext) := by
          have e0 : q.2.2.1 = q.2.2.1.take na ++ .retAddr 2 :: rest := by rw [← hst, List.take_append_drop]
          rw [List.map_reverse, List.reverse_reverse]
          conv => lhs; rw [e0]
          rw [List.map_append]; rfl
        refine rm_call (va_runV (As := ((q.2.2.1.take na).reverse).map (rm_v sz ext)) (rest := rest.map (rm_v sz ext)) (n := na) (Ts := rm_tb) (C := (mt mi).1.cls) (b := ext 2) ⟨hx, rfl, hml, hown, hts⟩ hM (cwV na hts (fun w hw => ?_) rfl rfl rfl ⟨rfl, n4⟩ ⟨by show d + 1 + 1 ≤ _; omega, by show 8 + (_ + 11) + 64 * (d + 1) ≤ _; omega⟩) ⟨rm_blind, ?_, fun U hU hW => ⟨rfl, by rw [hU]; exact hR, hX.go hW (fun z hz => by rw [hU]; exact hS.1 z hz)⟩⟩ rfl ?_ hl.1 est (lv_room ?_) hd ⟨hc1, hc2⟩) hS ?_
        · unfold wsV at hw
          rcases List.mem_append.mp hw with hw | hw
          · simp only [List.mem_cons, List.not_mem_nil, or_false] at hw
            rcases hw with rfl | rfl | rfl | rfl
            · exact ⟨k1, good_of_word (rm_tb_good _ k1)⟩
            · exact ⟨k2, good_of_word (rm_tb_good _ k2)⟩
            · exact ⟨k3, good_of_word (rm_tb_good _ k3)⟩
            · exact ⟨n3, good_of_word (rm_tb_good _ n3)⟩
          · exact rm_good n2 w hw
        · rw [k5]
          obtain ⟨hv, -⟩ := hX.2.2.2.2.1.2.2.1.1 0 (by decide)
          obtain ⟨cell, g1, g2, g3, -⟩ := hv.kept (rm_hq hS)
          exact ⟨cell, g1, g2, g3⟩
        · rw [List.length_map, List.length_reverse]; exact hlen
        · rw [rm_cs_map]; exact hn
        · intro H1 locs1 h1 h2
          have hk := K ls H1 locs1 hl h1 h2
          unfold rm_aft at hk
          dsimp only at hk
          rw [rm_toList] at hk
          exact hk
      · cases hf
    · cases hf
  · cases hf
theorem rm_nr_v {v : Value} (h : rm_nr v = true) (z : Nat) : rm_v (sz + z) ext v = rm_v sz ext v := by cases v <;> first | rfl | cases h
theorem rm_nr_map {vs : List Value} (h : vs.all rm_nr = true) (z : Nat) : vs.map (rm_v (sz + z) ext) = vs.map (rm_v sz ext) :=
  List.map_congr_left (fun v hv => rm_nr_v (List.all_eq_true.mp h v hv) z)
theorem rm_sh_c (z : Nat) (x : va_E) : rm_c sz ext cA (rm_sh z x) = rm_c (sz + z) ext cA x := by
  cases x with
  | inl a =>
    obtain ⟨t, n, d⟩ := a
    obtain d | d | d | d | d := d
    · rfl
    · rfl
    · rfl
    · rfl
    · show Sum.inl (cA t, n, _) = Sum.inl (cA t, n, _)
      congr 7
      funext j
      show ((d j).map (fun k => z + k)).map (fun k => sz + k) = (d j).map (fun k => sz + z + k)
      cases d j with
      | none => rfl
      | some k => exact congrArg some (Nat.add_assoc sz z k).symm
  | inr o =>
    obtain ⟨ci, fs⟩ := o
    show Sum.inr (ci, (fs.map (rm_shv z)).map (rm_v sz ext)) = Sum.inr (ci, fs.map (rm_v (sz + z) ext))
    rw [List.map_map]
    congr 3
    funext v
    cases v <;> first | rfl | exact congrArg Value.ref (Nat.add_assoc sz z _).symm
theorem rm_sh_at {H : Heap} (z k : Nat) (x : va_E) (h : rm_at1 D (sz + z) ext cA k x H) : rm_at1 D sz ext cA (z + k) (rm_sh z x) H := by
  have ea : sz + z + k = sz + (z + k) := Nat.add_assoc sz z k
  cases x with
  | inl a =>
    obtain ⟨t, n, d⟩ := a
    obtain d | d | d | d | d := d
    · have h : va_at D vwCl (sz + z + k, rm_c (sz + z) ext cA (.inl (t, n, .inl d))) H := h
      rw [ea, ← rm_sh_c] at h
      exact h
    · have h : va_at D vwCl (sz + z + k, rm_c (sz + z) ext cA (.inl (t, n, .inr (.inl d)))) H := h
      rw [ea, ← rm_sh_c] at h
      exact h
    · have h : rm_hv D cA (sz + z + k) t n H := h
      rw [ea] at h
      exact h
    · have h : va_at D vwCl (sz + z + k, rm_c (sz + z) ext cA (.inl (t, n, .inr (.inr (.inr (.inl d)))))) H := h
      rw [ea, ← rm_sh_c] at h
      exact h
    · have h : va_at D vwCl (sz + z + k, rm_c (sz + z) ext cA (.inl (t, n, .inr (.inr (.inr (.inr d)))))) H := h
      rw [ea, ← rm_sh_c] at h
      exact h
  | inr o =>
    have h : va_at D vwCl (sz + z + k, rm_c (sz + z) ext cA (.inr o)) H := h
    rw [ea, ← rm_sh_c] at h
    exact h
theorem rm_invI_s (hx : p.tables.exec = Jvm.exec) (hml : c.maxLocals = nL) (hts : ∀ w ∈ rm_tb, w.before args s = true) (hX : rm_X D cA sz ext L xs s) (hown : s.vm.findClass own = some m.cls) (hfr : d + 2 ≤ R.frames) (hlo : 64 * (d + 2) ≤ R.locals) {call : Nat → List Value → rm_H → List Nat → Option rm_Re}
    (Hcall : ∀ (z mi : Nat) (av : List Value) (h : rm_H) (orc : List Nat) (res : rm_Re), call mi av h orc = some res → res.2.2.2.2.2 = true → mi < nM → rm_Mt l D cA z ext L xs mt d mi av h res) {i mi na : Nat} (hok : rm_okM mt P nM own (i, 3, mi, na, 2)) : rm_KA p l e R s m args below meth c Q nL sz ext cA D (.invokespecial i) 3 (rm_invI call mi na) := by
  intro q r hd hf ho hc1 hc2 K ls H locs hl hR hS
  unfold rm_invI at hf
  split at hf
  · rename_i a rest hst
    split at hf
    · rename_i o hobj
      split at hf
      · rename_i hn
        split at hf
        · rename_i h' t' hres
          cases hf
          obtain ⟨k1, k2, k3, k4, n1, n2, n3, n4, n5⟩ := hok
          have hM := Hcall (sz + a) _ _ _ _ _ hres ho n1
          have hlen : (q.2.2.1.take na).length = na := by
            have : (q.2.2.1.drop na).length ≠ 0 := by rw [hst]; simp
            rw [List.length_drop] at this
            rw [List.length_take]; omega
          have hnr : ((q.2.2.1.take na).reverse).all rm_nr = true := by rw [List.all_reverse]; exact hn.2.2.1
          have est : q.2.2.1.map (rm_v sz ext) = (((q.2.2.1.take na).reverse).map (rm_v (sz + a) ext)).reverse ++ .ref (sz + a) :: rest.map (rm_v sz ext) := by
            have e0 : q.2.2.1 = q.2.2.1.take na ++ .ref a :: rest := by rw [← hst, List.take_append_drop]
            rw [rm_nr_map hnr, List.map_reverse, List.reverse_reverse]
            conv => lhs; rw [e0]
            rw [List.map_append]; rfl
          have h0 := rm_obj_ok hobj
          have hn1 : a + 1 = List.length q.2.2.2.1 := hn.2.1
          have hR1 : rm_R D (sz + a) ext cA [.inr o] H := by
            refine ⟨by rw [hR.1, ← hn1]; show sz + _ = sz + a + 1; omega, fun k x hk => ?_⟩
            cases k with
            | succ k => simp at hk
            | zero =>
              cases hk
              have z : va_at D vwCl (sz + a, .inr (o.1, o.2.map (rm_v sz ext))) H := hR.2 _ _ h0
              show va_at D vwCl (sz + a, .inr (o.1, o.2.map (rm_v (sz + a) ext))) H
              rw [rm_nr_map hn.2.2.2]
              exact z
          have hX1 : ∀ U : State, U.heap = H → s.WarmedH U.vm → rm_X D cA (sz + a) ext L xs U := fun U hU hW => by
            have z := hX.go hW (fun z hz => by rw [hU]; exact hS.1 z hz)
            exact ⟨z.1, z.2.1, z.2.2.1, z.2.2.2.1, ⟨Nat.lt_of_lt_of_le z.2.2.2.2.1.1 (Nat.le_add_right sz a), z.2.2.2.2.1.2.1, z.2.2.2.2.1.2.2.1.narrow (fun q hq => Nat.le_trans (Nat.le_add_right sz a) hq), z.2.2.2.2.1.2.2.2.narrow (fun q hq => Nat.le_trans (Nat.le_add_right sz a) hq)⟩, z.2.2.2.2.2⟩
          unfold rm_Mt at hM
          have hg := rm_good n2
          rw [k4] at hM hg
          have hrun := va_runI (p := p) (l := l) (e := e) (R := R) (s := s) (m := m) (args := args) (below := below) (meth := meth) (c := c) (H := H) (locs := locs) (cells := q.2.2.2.2.1) (slots := q.2.2.2.2.2.1) (g := F0 m q.1 ls (q.2.2.1.map (rm_v sz ext))) (As := ((q.2.2.1.take na).reverse).map (rm_v (sz + a) ext)) (rest := rest.map (rm_v sz ext)) (n := na) (Ts := rm_tb) (b := sz + a) ⟨hx, rfl, hml, hown, hts⟩ hM (cwI na hts hg rfl rfl rfl (hts _ n3) (hts _ k1) (hts _ k2) k3 n4 ⟨by show d + 1 + 1 ≤ _; omega, by show 8 + (_ + 11) + 64 * (d + 1) ≤ _; omega⟩) ⟨rm_blind, fun U hU hW => ⟨rfl, by rw [hU]; exact hR1, hX1 U hU hW⟩⟩ rfl (by rw [List.length_map, List.length_reverse]; exact hlen) hl.1 est (lv_room (by rw [rm_cs_map]; exact hn.1)) hd ⟨hc1, hc2⟩
          intro T hT X
          obtain ⟨v, st₀, t, T', L9, g0, X', hL, e1, e2, ⟨hv, hR2, hk⟩, st⟩ := hrun T hT X
          cases hv
          have hRn : rm_R D sz ext cA (q.2.2.2.1.take a ++ h'.map (rm_sh a)) T'.heap := by
            have hla : (q.2.2.2.1.take a).length = a := by rw [List.length_take, ← hn1]; omega
            refine ⟨by rw [e1, hR2.1, List.length_append, List.length_map, hla]; show sz + a + h'.length = _; omega, fun k x hkx => ?_⟩
            by_cases hka : k < a
            · rw [List.getElem?_append_left (by omega), List.getElem?_take_of_lt hka] at hkx
              refine (hR.2 k x hkx).kept ?_
              show T'.heap[sz + k]? = H[sz + k]?
              rw [e1, hk (sz + k) (by omega), g0]
            · rw [List.getElem?_append_right (by omega), hla, List.getElem?_map] at hkx
              cases hy : h'[k - a]? with
              | none => rw [hy] at hkx; cases hkx
              | some y =>
                rw [hy] at hkx
                cases hkx
                have z := rm_sh_at a (k - a) y (hR2.2 (k - a) y hy)
                have ez : a + (k - a) = k := Nat.add_sub_cancel' (Nat.le_of_not_lt hka)
                rw [ez] at z
                rw [e1]
                exact z
          obtain ⟨t2, a1, b1⟩ := K ls T'.heap (locs ++ L9) hl hRn ⟨fun z hz => by rw [e1, hk z (by omega), g0]; exact hS.1 z hz, fun z hz => by
            rcases List.mem_append.mp hz with h9 | h9
            · exact hS.2 z h9
            · exact Nat.le_trans (Nat.le_add_right sz a) (hL z h9)⟩ T' rfl X'
          exact ⟨t2, st t2 a1, b1⟩
        · cases hf
      · cases hf
    · cases hf
  · cases hf
theorem rm_invO_s (hx : p.tables.exec = Jvm.exec) (hml : c.maxLocals = nL) (hts : ∀ w ∈ rm_tb, w.before args s = true) (hown : s.vm.findClass own = some m.cls) (hfr : d + 2 ≤ R.frames) (hlo : 64 * (d + 2) ≤ R.locals) {i mi na : Nat} (hok : rm_okM mt P nM own (i, 3, mi, na, 3)) : rm_KA p l e R s m args below meth c Q nL sz ext cA D (.invokespecial i) 3 rm_invO := by
  intro q r hd hf ho hc1 hc2 K ls H locs hl hR hS
  unfold rm_invO at hf
  split at hf
  · rename_i a rest hst
    split at hf
    · rename_i hn
      cases hf
      obtain ⟨k1, k2, k3⟩ := hok
      have hk := K ls H locs hl hR hS
      rw [hst]
      refine W.objInit hx rfl hown (hts _ k1) (hts _ k2) (hts _ k3) rfl (by rw [hml]; exact hl.1) rfl hd (by omega) ?_ hk
      show 2 * 0 + _ + 12 ≤ _
      rw [rm_cs_map]
      omega
    · cases hf
  · cases hf
end RMC
