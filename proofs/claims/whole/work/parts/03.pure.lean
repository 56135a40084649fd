/-! THE MACHINE AGAINST THE KIT'S W: values, locals, heaps; the instructions that make no cell and read none -/
def rm_v (sz : Nat) (ext : Nat → Nat) : Value → Value
  | .ref k => .ref (sz + k)
  | .retAddr n => .ref (ext n)
  | v => v
theorem rm_v_cat (sz : Nat) (ext : Nat → Nat) (v : Value) : (rm_v sz ext v).category = v.category := by cases v <;> rfl
def rm_l (sz : Nat) (ext : Nat → Nat) (lv : rm_L) : rm_L := lv.map (fun q => (q.1, rm_v sz ext q.2))
def rm_a (sz : Nat) (a : vp_A) : vp_A := match a with
  | (n, .inr (.inr (.inr (.inr f)))) => (n, .inr (.inr (.inr (.inr (fun j => (f j).map (fun k => sz + k))))))
  | a => a
def rm_c (sz : Nat) (ext : Nat → Nat) (cA : Nat → ClassId) : va_E → va_E
  | .inl a => .inl (cA a.1, rm_a sz a.2)
  | .inr o => .inr (o.1, o.2.map (rm_v sz ext))
/-- a cell of the machine's heap -/
def rm_at1 (D : va_G) (sz : Nat) (ext : Nat → Nat) (cA : Nat → ClassId) (k : Nat) (c : va_E) (H : Heap) : Prop := va_at D vwCl (sz + k, rm_c sz ext cA c) H
theorem rm_at1.kept {D : va_G} {sz : Nat} {ext : Nat → Nat} {cA : Nat → ClassId} {k : Nat} {c : va_E} {H H1 : Heap} (h : rm_at1 D sz ext cA k c H) (e : H1[sz + k]? = H[sz + k]?) : rm_at1 D sz ext cA k c H1 := va_at.kept h e
/-- the machine's heap is what lies in the true heap from sz on -/
def rm_R (D : va_G) (sz : Nat) (ext : Nat → Nat) (cA : Nat → ClassId) (h : rm_H) (H : Heap) : Prop := H.size = sz + h.length ∧ ∀ (k : Nat) (c : va_E), h[k]? = some c → rm_at1 D sz ext cA k c H
/-- nothing below sz was written -/
def rm_S (sz : Nat) (H0 H : Heap) (locs : List Loc) : Prop := (∀ q : Nat, q < sz → H[q]? = H0[q]?) ∧ ∀ q ∈ locs, sz ≤ q.base
theorem rm_get_mem {lv : rm_L} {i : Nat} {v : Value} (h : rm_get lv i = some v) : (i, v) ∈ lv := by
  induction lv with
  | nil => cases h
  | cons q r ih =>
    unfold rm_get at h
    by_cases hq : q.1 == i
    · rw [if_pos hq] at h
      have e : q.1 = i := by simpa using hq
      cases h
      cases q
      cases e
      exact List.mem_cons_self
    · rw [if_neg hq] at h
      exact List.mem_cons_of_mem _ (ih h)
theorem rm_at {sz : Nat} {ext : Nat → Nat} {ls : Array Slot} {nL : Nat} {lv : rm_L} {i : Nat} {v : Value} (hl : lv_has ls nL (rm_l sz ext lv)) (h : rm_get lv i = some v) : ls[i]? = some (.val (rm_v sz ext v)) :=
  hl.2.2 (i, rm_v sz ext v) (List.mem_map.mpr ⟨(i, v), rm_get_mem h, rfl⟩)
theorem rm_l_put1 {sz : Nat} {ext : Nat → Nat} {lv : rm_L} {i : Nat} {v : Value} : (i, rm_v sz ext v) :: (rm_l sz ext lv).filter (fun q => !(q.1 == i) && !(q.1 + 1 == i && q.2.category == 2)) = rm_l sz ext (rm_put1 lv i v) := by
  unfold rm_l rm_put1
  rw [List.map_cons, List.filter_map]
  refine congrArg (fun z => _ :: List.map _ (List.filter z lv)) ?_
  funext q
  simp [Function.comp, rm_v_cat]
theorem rm_l_put2 {sz : Nat} {ext : Nat → Nat} {lv : rm_L} {i : Nat} {v : Value} : (i, rm_v sz ext v) :: (rm_l sz ext lv).filter (fun q => !(q.1 == i) && (!(q.1 == i + 1) && !(q.1 + 1 == i && q.2.category == 2))) = rm_l sz ext (rm_put2 lv i v) := by
  unfold rm_l rm_put2
  rw [List.map_cons, List.filter_map]
  refine congrArg (fun z => _ :: List.map _ (List.filter z lv)) ?_
  funext q
  simp [Function.comp, rm_v_cat]
section RM
variable {p : Program} {l : Launch} {e : Env} {R : Room} {s : State} {m : MethodId} {args : Array Value} {below : List Frame} {meth : Method} {c : Code} {Q : State → Prop}
variable {cc : ByteArray} {nL sz : Nat} {ext : Nat → Nat} {cA : Nat → ClassId} {D : va_G}
/-- from this state of the machine on, the true machine comes to Q -/
def rm_K (p : Program) (l : Launch) (e : Env) (R : Room) (s : State) (m : MethodId) (args : Array Value) (below : List Frame) (meth : Method) (c : Code) (Q : State → Prop) (nL sz : Nat) (ext : Nat → Nat) (cA : Nat → ClassId) (D : va_G) (q : rm_N) : Prop :=
  ∀ (ls : Array Slot) (H : Heap) (locs : List Loc), lv_has ls nL (rm_l sz ext q.2.1) → rm_R D sz ext cA q.2.2.2.1 H → rm_S sz s.heap H locs → W p l e R s m args below meth c H locs q.2.2.2.2.1 q.2.2.2.2.2 Q (F0 m q.1 ls (q.2.2.1.map (rm_v sz ext)))
abbrev rm_KK (p : Program) (l : Launch) (e : Env) (R : Room) (s : State) (m : MethodId) (args : Array Value) (below : List Frame) (meth : Method) (c : Code) (Q : State → Prop) (nL sz : Nat) (ext : Nat → Nat) (cA : Nat → ClassId) (D : va_G) (i : Instr) (n : Nat) (f : rm_N → Option rm_N) : Prop :=
  ∀ (q r : rm_N), decode c.code q.1 = .ok (i, n) → f q = some r → rm_K p l e R s m args below meth c Q nL sz ext cA D r → rm_K p l e R s m args below meth c Q nL sz ext cA D q
theorem rm_s_iconst (hx : p.tables.exec = Jvm.exec) {k : Int} : rm_KK p l e R s m args below meth c Q nL sz ext cA D (.iconst k) 1 (rm_push 1 (.int (Int32.ofInt k))) := by
  intro q r hd hf K ls H locs hl hR hS
  cases hf
  exact lv_iconst (v := Int32.ofInt k) hx rfl hd rfl (K ls H locs hl hR hS)
theorem rm_s_bipush (hx : p.tables.exec = Jvm.exec) {k : Int} : rm_KK p l e R s m args below meth c Q nL sz ext cA D (.bipush k) 2 (rm_push 2 (.int (Int8.ofInt k).toInt32)) := by
  intro q r hd hf K ls H locs hl hR hS
  cases hf
  exact lv_bipush (v := (Int8.ofInt k).toInt32) hx rfl hd rfl (K ls H locs hl hR hS)
theorem rm_s_sipush (hx : p.tables.exec = Jvm.exec) {k : Int} : rm_KK p l e R s m args below meth c Q nL sz ext cA D (.sipush k) 3 (rm_push 3 (.int (Int16.ofInt k).toInt32)) := by
  intro q r hd hf K ls H locs hl hR hS
  cases hf
  exact lv_sipush (v := (Int16.ofInt k).toInt32) hx rfl hd rfl (K ls H locs hl hR hS)
theorem rm_s_lconst (hx : p.tables.exec = Jvm.exec) {k : Fin 2} : rm_KK p l e R s m args below meth c Q nL sz ext cA D (.lconst k) 1 (rm_push 1 (.long (Int64.ofNat (k : Nat)))) := by
  intro q r hd hf K ls H locs hl hR hS
  cases hf
  exact lv_lconst (v := Int64.ofNat (k : Nat)) hx rfl hd rfl (K ls H locs hl hR hS)
theorem rm_loadT_ok {f : Value → Bool} {n i : Nat} {q r : rm_N} (h : rm_loadT f n i q = some r) : ∃ v, rm_get q.2.1 i = some v ∧ f v = true ∧ r = (q.1 + n, q.2.1, v :: q.2.2.1, q.2.2.2) := by
  unfold rm_loadT at h
  cases hg : rm_get q.2.1 i with
  | none => rw [hg] at h; cases h
  | some v =>
    rw [hg] at h
    by_cases hv : f v = true
    · simp only [hv, if_true] at h
      exact ⟨v, rfl, hv, (Option.some.inj h).symm⟩
    · simp only [hv] at h
      cases h
theorem rm_isI_ok {v : Value} (h : rm_isI v = true) (sz : Nat) (ext : Nat → Nat) : ∃ x, rm_v sz ext v = .int x := by cases v <;> first | exact ⟨_, rfl⟩ | cases h
theorem rm_isJ_ok {v : Value} (h : rm_isJ v = true) : ∃ x, v = .long x := by cases v <;> first | exact ⟨_, rfl⟩ | cases h
theorem rm_isA_ok {v : Value} (h : rm_isA v = true) (sz : Nat) (ext : Nat → Nat) : ∃ x, rm_v sz ext v = .ref x := by cases v <;> first | exact ⟨_, rfl⟩ | cases h
theorem rm_s_iload_n (hx : p.tables.exec = Jvm.exec) {k : Fin 4} : rm_KK p l e R s m args below meth c Q nL sz ext cA D (.iload_n k) 1 (rm_loadT rm_isI 1 (k : Nat)) := by
  intro q r hd hf K ls H locs hl hR hS
  obtain ⟨v, h1, h2, rfl⟩ := rm_loadT_ok hf
  obtain ⟨x, hv⟩ := rm_isI_ok h2 sz ext
  have hk := K ls H locs hl hR hS
  have ha := rm_at hl h1
  rw [hv] at ha
  simp only [List.map_cons, hv] at hk
  exact lv_iload_n hx rfl hd rfl ha hk
theorem rm_s_iload (hx : p.tables.exec = Jvm.exec) {k : Nat} : rm_KK p l e R s m args below meth c Q nL sz ext cA D (.iload k) 2 (rm_loadT rm_isI 2 k) := by
  intro q r hd hf K ls H locs hl hR hS
  obtain ⟨v, h1, h2, rfl⟩ := rm_loadT_ok hf
  obtain ⟨x, hv⟩ := rm_isI_ok h2 sz ext
  have hk := K ls H locs hl hR hS
  have ha := rm_at hl h1
  rw [hv] at ha
  simp only [List.map_cons, hv] at hk
  exact lv_iload hx rfl hd ha hk
theorem rm_s_lload_n (hx : p.tables.exec = Jvm.exec) {k : Fin 4} : rm_KK p l e R s m args below meth c Q nL sz ext cA D (.lload_n k) 1 (rm_loadT rm_isJ 1 (k : Nat)) := by
  intro q r hd hf K ls H locs hl hR hS
  obtain ⟨v, h1, h2, rfl⟩ := rm_loadT_ok hf
  obtain ⟨x, rfl⟩ := rm_isJ_ok h2
  exact lv_lload_n hx rfl hd rfl (rm_at hl h1) (K ls H locs hl hR hS)
theorem rm_s_lload (hx : p.tables.exec = Jvm.exec) {k : Nat} : rm_KK p l e R s m args below meth c Q nL sz ext cA D (.lload k) 2 (rm_loadT rm_isJ 2 k) := by
  intro q r hd hf K ls H locs hl hR hS
  obtain ⟨v, h1, h2, rfl⟩ := rm_loadT_ok hf
  obtain ⟨x, rfl⟩ := rm_isJ_ok h2
  exact lv_lload hx rfl hd (rm_at hl h1) (K ls H locs hl hR hS)
theorem rm_s_aload_n (hx : p.tables.exec = Jvm.exec) {k : Fin 4} : rm_KK p l e R s m args below meth c Q nL sz ext cA D (.aload_n k) 1 (rm_loadT rm_isA 1 (k : Nat)) := by
  intro q r hd hf K ls H locs hl hR hS
  obtain ⟨v, h1, h2, rfl⟩ := rm_loadT_ok hf
  obtain ⟨x, hv⟩ := rm_isA_ok h2 sz ext
  have hk := K ls H locs hl hR hS
  have ha := rm_at hl h1
  rw [hv] at ha
  simp only [List.map_cons, hv] at hk
  exact lv_aload_n hx rfl hd rfl ha hk
theorem rm_s_aload (hx : p.tables.exec = Jvm.exec) {k : Nat} : rm_KK p l e R s m args below meth c Q nL sz ext cA D (.aload k) 2 (rm_loadT rm_isA 2 k) := by
  intro q r hd hf K ls H locs hl hR hS
  obtain ⟨v, h1, h2, rfl⟩ := rm_loadT_ok hf
  obtain ⟨x, hv⟩ := rm_isA_ok h2 sz ext
  have hk := K ls H locs hl hR hS
  have ha := rm_at hl h1
  rw [hv] at ha
  simp only [List.map_cons, hv] at hk
  exact lv_aload hx rfl hd ha hk
theorem rm_store1_ok {f : Value → Bool} {nL n i : Nat} {q r : rm_N} (h : rm_store1 f nL n i q = some r) : ∃ v st, q.2.2.1 = v :: st ∧ f v = true ∧ i < nL ∧ r = (q.1 + n, rm_put1 q.2.1 i v, st, q.2.2.2) := by
  unfold rm_store1 at h
  cases hg : q.2.2.1 with
  | nil => rw [hg] at h; cases h
  | cons v st =>
    simp only [hg] at h
    split at h
    · rename_i hv
      simp only [Bool.and_eq_true, decide_eq_true_eq] at hv
      exact ⟨v, st, rfl, hv.1, hv.2, (Option.some.inj h).symm⟩
    · cases h
theorem rm_store2_ok {nL n i : Nat} {q r : rm_N} (h : rm_store2 nL n i q = some r) : ∃ v st, q.2.2.1 = .long v :: st ∧ i + 1 < nL ∧ r = (q.1 + n, rm_put2 q.2.1 i (.long v), st, q.2.2.2) := by
  unfold rm_store2 at h
  split at h
  · rename_i v st hg
    split at h
    · rename_i hv
      exact ⟨v, st, hg, hv, (Option.some.inj h).symm⟩
    · cases h
  · cases h
theorem rm_s_istore_n (hx : p.tables.exec = Jvm.exec) {k : Fin 4} : rm_KK p l e R s m args below meth c Q nL sz ext cA D (.istore_n k) 1 (rm_store1 rm_isI nL 1 (k : Nat)) := by
  intro q r hd hf K ls H locs hl hR hS
  obtain ⟨v, st, h1, h2, h3, rfl⟩ := rm_store1_ok hf
  obtain ⟨x, hv⟩ := rm_isI_ok h2 sz ext
  rw [h1]
  have e := rm_l_put1 (sz := sz) (ext := ext) (lv := q.2.1) (i := (k : Nat)) (v := v)
  rw [hv] at e
  simp only [List.map_cons, hv]
  exact lv_istore_n hx rfl hd rfl hl h3 e (fun ls hl => K ls H locs hl hR hS)
theorem rm_s_istore (hx : p.tables.exec = Jvm.exec) {k : Nat} : rm_KK p l e R s m args below meth c Q nL sz ext cA D (.istore k) 2 (rm_store1 rm_isI nL 2 k) := by
  intro q r hd hf K ls H locs hl hR hS
  obtain ⟨v, st, h1, h2, h3, rfl⟩ := rm_store1_ok hf
  obtain ⟨x, hv⟩ := rm_isI_ok h2 sz ext
  rw [h1]
  have e := rm_l_put1 (sz := sz) (ext := ext) (lv := q.2.1) (i := k) (v := v)
  rw [hv] at e
  simp only [List.map_cons, hv]
  exact lv_istore hx rfl hd hl h3 e (fun ls hl => K ls H locs hl hR hS)
theorem rm_s_astore_n (hx : p.tables.exec = Jvm.exec) {k : Fin 4} : rm_KK p l e R s m args below meth c Q nL sz ext cA D (.astore_n k) 1 (rm_store1 rm_isA nL 1 (k : Nat)) := by
  intro q r hd hf K ls H locs hl hR hS
  obtain ⟨v, st, h1, h2, h3, rfl⟩ := rm_store1_ok hf
  obtain ⟨x, hv⟩ := rm_isA_ok h2 sz ext
  rw [h1]
  have e := rm_l_put1 (sz := sz) (ext := ext) (lv := q.2.1) (i := (k : Nat)) (v := v)
  rw [hv] at e
  simp only [List.map_cons, hv]
  exact lv_astore_n hx rfl hd rfl hl h3 e (fun ls hl => K ls H locs hl hR hS)
theorem rm_s_astore (hx : p.tables.exec = Jvm.exec) {k : Nat} : rm_KK p l e R s m args below meth c Q nL sz ext cA D (.astore k) 2 (rm_store1 rm_isA nL 2 k) := by
  intro q r hd hf K ls H locs hl hR hS
  obtain ⟨v, st, h1, h2, h3, rfl⟩ := rm_store1_ok hf
  obtain ⟨x, hv⟩ := rm_isA_ok h2 sz ext
  rw [h1]
  have e := rm_l_put1 (sz := sz) (ext := ext) (lv := q.2.1) (i := k) (v := v)
  rw [hv] at e
  simp only [List.map_cons, hv]
  exact lv_astore hx rfl hd hl h3 e (fun ls hl => K ls H locs hl hR hS)
theorem rm_s_lstore_n (hx : p.tables.exec = Jvm.exec) {k : Fin 4} : rm_KK p l e R s m args below meth c Q nL sz ext cA D (.lstore_n k) 1 (rm_store2 nL 1 (k : Nat)) := by
  intro q r hd hf K ls H locs hl hR hS
  obtain ⟨x, st, h1, h3, rfl⟩ := rm_store2_ok hf
  rw [h1]
  exact lv_lstore_n hx rfl hd rfl hl h3 (rm_l_put2 (v := .long x)) (fun ls hl => K ls H locs hl hR hS)
theorem rm_s_lstore (hx : p.tables.exec = Jvm.exec) {k : Nat} : rm_KK p l e R s m args below meth c Q nL sz ext cA D (.lstore k) 2 (rm_store2 nL 2 k) := by
  intro q r hd hf K ls H locs hl hR hS
  obtain ⟨x, st, h1, h3, rfl⟩ := rm_store2_ok hf
  rw [h1]
  exact lv_lstore hx rfl hd hl h3 (rm_l_put2 (v := .long x)) (fun ls hl => K ls H locs hl hR hS)
theorem rm_l_at {sz : Nat} {ext : Nat → Nat} {lv : rm_L} {i : Nat} {v : Value} (h : rm_get lv i = some v) : ∃ k : Nat, (rm_l sz ext lv)[k]? = some (i, rm_v sz ext v) :=
  List.getElem?_of_mem (List.mem_map.mpr ⟨(i, v), rm_get_mem h, rfl⟩)
theorem rm_s_iinc (hx : p.tables.exec = Jvm.exec) {i : Nat} {k : Int} : rm_KK p l e R s m args below meth c Q nL sz ext cA D (.iinc i k) 3 (rm_iinc nL i k) := by
  intro q r hd hf K ls H locs hl hR hS
  unfold rm_iinc at hf
  split at hf
  · rename_i x hg
    split at hf
    · rename_i hn
      cases hf
      obtain ⟨j, hj⟩ := rm_l_at (sz := sz) (ext := ext) hg
      exact lv_iinc hx rfl hd hl hj rfl hn (rm_l_put1 (v := .int (x + Int32.ofInt k))) (fun ls hl => K ls H locs hl hR hS)
    · cases hf
  · cases hf
theorem rm_ii_ok {f : Int32 → Int32 → Int32} {q r : rm_N} (h : rm_ii f q = some r) : ∃ x y st, q.2.2.1 = .int y :: .int x :: st ∧ r = (q.1 + 1, q.2.1, .int (f x y) :: st, q.2.2.2) := by
  unfold rm_ii at h
  split at h
  · rename_i y x st hg
    exact ⟨x, y, st, hg, (Option.some.inj h).symm⟩
  · cases h
theorem rm_s_iadd (hx : p.tables.exec = Jvm.exec) : rm_KK p l e R s m args below meth c Q nL sz ext cA D .iadd 1 (rm_ii (fun x y => x + y)) := by
  intro q r hd hf K ls H locs hl hR hS
  obtain ⟨x, y, st, h1, rfl⟩ := rm_ii_ok hf
  rw [h1]
  exact lv_iadd hx rfl hd (K ls H locs hl hR hS)
theorem rm_s_isub (hx : p.tables.exec = Jvm.exec) : rm_KK p l e R s m args below meth c Q nL sz ext cA D .isub 1 (rm_ii (fun x y => x - y)) := by
  intro q r hd hf K ls H locs hl hR hS
  obtain ⟨x, y, st, h1, rfl⟩ := rm_ii_ok hf
  rw [h1]
  exact lv_isub hx rfl hd (K ls H locs hl hR hS)
theorem rm_s_imul (hx : p.tables.exec = Jvm.exec) : rm_KK p l e R s m args below meth c Q nL sz ext cA D .imul 1 (rm_ii (fun x y => x * y)) := by
  intro q r hd hf K ls H locs hl hR hS
  obtain ⟨x, y, st, h1, rfl⟩ := rm_ii_ok hf
  rw [h1]
  exact lv_imul hx rfl hd (K ls H locs hl hR hS)
theorem rm_s_iand (hx : p.tables.exec = Jvm.exec) : rm_KK p l e R s m args below meth c Q nL sz ext cA D .iand 1 (rm_ii (fun x y => x &&& y)) := by
  intro q r hd hf K ls H locs hl hR hS
  obtain ⟨x, y, st, h1, rfl⟩ := rm_ii_ok hf
  rw [h1]
  exact lv_iand hx rfl hd (K ls H locs hl hR hS)
theorem rm_s_ior (hx : p.tables.exec = Jvm.exec) : rm_KK p l e R s m args below meth c Q nL sz ext cA D .ior 1 (rm_ii (fun x y => x ||| y)) := by
  intro q r hd hf K ls H locs hl hR hS
  obtain ⟨x, y, st, h1, rfl⟩ := rm_ii_ok hf
  rw [h1]
  exact lv_ior hx rfl hd (K ls H locs hl hR hS)
theorem rm_s_ixor (hx : p.tables.exec = Jvm.exec) : rm_KK p l e R s m args below meth c Q nL sz ext cA D .ixor 1 (rm_ii (fun x y => x ^^^ y)) := by
  intro q r hd hf K ls H locs hl hR hS
  obtain ⟨x, y, st, h1, rfl⟩ := rm_ii_ok hf
  rw [h1]
  exact lv_ixor hx rfl hd (K ls H locs hl hR hS)
theorem rm_s_ishl (hx : p.tables.exec = Jvm.exec) : rm_KK p l e R s m args below meth c Q nL sz ext cA D .ishl 1 (rm_ii (fun x y => x <<< (y &&& 31))) := by
  intro q r hd hf K ls H locs hl hR hS
  obtain ⟨x, y, st, h1, rfl⟩ := rm_ii_ok hf
  rw [h1]
  exact lv_ishl hx rfl hd (K ls H locs hl hR hS)
theorem rm_s_ishr (hx : p.tables.exec = Jvm.exec) : rm_KK p l e R s m args below meth c Q nL sz ext cA D .ishr 1 (rm_ii (fun x y => x >>> (y &&& 31))) := by
  intro q r hd hf K ls H locs hl hR hS
  obtain ⟨x, y, st, h1, rfl⟩ := rm_ii_ok hf
  rw [h1]
  exact lv_ishr hx rfl hd (K ls H locs hl hR hS)
theorem rm_s_iushr (hx : p.tables.exec = Jvm.exec) : rm_KK p l e R s m args below meth c Q nL sz ext cA D .iushr 1 (rm_ii (fun x y => (x.toUInt32 >>> (y.toUInt32 &&& Int32.toUInt32 31)).toInt32)) := by
  intro q r hd hf K ls H locs hl hR hS
  obtain ⟨x, y, st, h1, rfl⟩ := rm_ii_ok hf
  rw [h1]
  exact lv_iushr hx rfl hd rfl (K ls H locs hl hR hS)
theorem rm_s_irem (hx : p.tables.exec = Jvm.exec) : rm_KK p l e R s m args below meth c Q nL sz ext cA D .irem 1 (rm_iiz (fun x y => x - x / y * y)) := by
  intro q r hd hf K ls H locs hl hR hS
  unfold rm_iiz at hf
  split at hf
  · rename_i y x st h1
    split at hf
    · cases hf
    · rename_i hy
      cases hf
      rw [h1]
      exact lv_irem hx rfl hd hy (K ls H locs hl hR hS)
  · cases hf
theorem rm_s_idiv (hx : p.tables.exec = Jvm.exec) : rm_KK p l e R s m args below meth c Q nL sz ext cA D .idiv 1 (rm_iiz (fun x y => x / y)) := by
  intro q r hd hf K ls H locs hl hR hS
  unfold rm_iiz at hf
  split at hf
  · rename_i y x st h1
    split at hf
    · cases hf
    · rename_i hy
      cases hf
      rw [h1]
      exact lv_idiv hx rfl hd hy (K ls H locs hl hR hS)
  · cases hf
theorem rm_s_lcmp (hx : p.tables.exec = Jvm.exec) : rm_KK p l e R s m args below meth c Q nL sz ext cA D .lcmp 1 (rm_jji lg_cmp) := by
  intro q r hd hf K ls H locs hl hR hS
  unfold rm_jji at hf
  split at hf
  · rename_i y x st h1
    cases hf
    rw [h1]
    exact W.lcmp hx rfl hd (K ls H locs hl hR hS)
  · cases hf
theorem rm_s_lushr (hx : p.tables.exec = Jvm.exec) : rm_KK p l e R s m args below meth c Q nL sz ext cA D .lushr 1 (rm_jij (fun x y => (x.toUInt64 >>> (y.toInt64.toUInt64 &&& Int64.toUInt64 63)).toInt64)) := by
  intro q r hd hf K ls H locs hl hR hS
  unfold rm_jij at hf
  split at hf
  · rename_i y x st h1
    cases hf
    rw [h1]
    exact lv_lushr hx rfl hd rfl (K ls H locs hl hR hS)
  · cases hf
theorem rm_s_ladd (hx : p.tables.exec = Jvm.exec) : rm_KK p l e R s m args below meth c Q nL sz ext cA D .ladd 1 (rm_jj (fun x y => x + y)) := by
  intro q r hd hf K ls H locs hl hR hS
  unfold rm_jj at hf
  split at hf
  · rename_i y x st h1
    cases hf
    rw [h1]
    exact lv_ladd hx rfl hd (K ls H locs hl hR hS)
  · cases hf
theorem rm_s_lsub (hx : p.tables.exec = Jvm.exec) : rm_KK p l e R s m args below meth c Q nL sz ext cA D .lsub 1 (rm_jj (fun x y => x - y)) := by
  intro q r hd hf K ls H locs hl hR hS
  unfold rm_jj at hf
  split at hf
  · rename_i y x st h1
    cases hf
    rw [h1]
    exact lv_lsub hx rfl hd (K ls H locs hl hR hS)
  · cases hf
theorem rm_s_lmul (hx : p.tables.exec = Jvm.exec) : rm_KK p l e R s m args below meth c Q nL sz ext cA D .lmul 1 (rm_jj (fun x y => x * y)) := by
  intro q r hd hf K ls H locs hl hR hS
  unfold rm_jj at hf
  split at hf
  · rename_i y x st h1
    cases hf
    rw [h1]
    exact lv_lmul hx rfl hd (K ls H locs hl hR hS)
  · cases hf
theorem rm_s_land (hx : p.tables.exec = Jvm.exec) : rm_KK p l e R s m args below meth c Q nL sz ext cA D .land 1 (rm_jj (fun x y => x &&& y)) := by
  intro q r hd hf K ls H locs hl hR hS
  unfold rm_jj at hf
  split at hf
  · rename_i y x st h1
    cases hf
    rw [h1]
    exact lv_land hx rfl hd (K ls H locs hl hR hS)
  · cases hf
theorem rm_s_lor (hx : p.tables.exec = Jvm.exec) : rm_KK p l e R s m args below meth c Q nL sz ext cA D .lor 1 (rm_jj (fun x y => x ||| y)) := by
  intro q r hd hf K ls H locs hl hR hS
  unfold rm_jj at hf
  split at hf
  · rename_i y x st h1
    cases hf
    rw [h1]
    exact lv_lor hx rfl hd (K ls H locs hl hR hS)
  · cases hf
theorem rm_s_lxor (hx : p.tables.exec = Jvm.exec) : rm_KK p l e R s m args below meth c Q nL sz ext cA D .lxor 1 (rm_jj (fun x y => x ^^^ y)) := by
  intro q r hd hf K ls H locs hl hR hS
  unfold rm_jj at hf
  split at hf
  · rename_i y x st h1
    cases hf
    rw [h1]
    exact lv_lxor hx rfl hd (K ls H locs hl hR hS)
  · cases hf
theorem rm_s_lrem (hx : p.tables.exec = Jvm.exec) : rm_KK p l e R s m args below meth c Q nL sz ext cA D .lrem 1 (rm_jjz (fun x y => x - x / y * y)) := by
  intro q r hd hf K ls H locs hl hR hS
  unfold rm_jjz at hf
  split at hf
  · rename_i y x st h1
    split at hf
    · cases hf
    · rename_i hy
      cases hf
      rw [h1]
      exact lv_lrem hx rfl hd hy (K ls H locs hl hR hS)
  · cases hf
theorem rm_s_ldiv (hx : p.tables.exec = Jvm.exec) : rm_KK p l e R s m args below meth c Q nL sz ext cA D .ldiv 1 (rm_jjz (fun x y => x / y)) := by
  intro q r hd hf K ls H locs hl hR hS
  unfold rm_jjz at hf
  split at hf
  · rename_i y x st h1
    split at hf
    · cases hf
    · rename_i hy
      cases hf
      rw [h1]
      exact lv_ldiv hx rfl hd hy (K ls H locs hl hR hS)
  · cases hf
theorem rm_s_lshl (hx : p.tables.exec = Jvm.exec) : rm_KK p l e R s m args below meth c Q nL sz ext cA D .lshl 1 (rm_jij (fun x y => x <<< (y.toInt64 &&& 63))) := by
  intro q r hd hf K ls H locs hl hR hS
  unfold rm_jij at hf
  split at hf
  · rename_i y x st h1
    cases hf
    rw [h1]
    exact lv_lshl hx rfl hd rfl (K ls H locs hl hR hS)
  · cases hf
theorem rm_s_lshr (hx : p.tables.exec = Jvm.exec) : rm_KK p l e R s m args below meth c Q nL sz ext cA D .lshr 1 (rm_jij (fun x y => x >>> (y.toInt64 &&& 63))) := by
  intro q r hd hf K ls H locs hl hR hS
  unfold rm_jij at hf
  split at hf
  · rename_i y x st h1
    cases hf
    rw [h1]
    exact lv_lshr hx rfl hd rfl (K ls H locs hl hR hS)
  · cases hf
theorem rm_i1_ok {f : Int32 → Value} {q r : rm_N} (h : rm_i1 f q = some r) : ∃ x st, q.2.2.1 = .int x :: st ∧ r = (q.1 + 1, q.2.1, f x :: st, q.2.2.2) := by
  unfold rm_i1 at h
  split at h
  · rename_i x st hg
    exact ⟨x, st, hg, (Option.some.inj h).symm⟩
  · cases h
theorem rm_s_i2l (hx : p.tables.exec = Jvm.exec) : rm_KK p l e R s m args below meth c Q nL sz ext cA D .i2l 1 (rm_i1 (fun x => .long x.toInt64)) := by
  intro q r hd hf K ls H locs hl hR hS
  obtain ⟨x, st, h1, rfl⟩ := rm_i1_ok hf
  rw [h1]
  exact lv_i2l hx rfl hd rfl (K ls H locs hl hR hS)
theorem rm_s_i2b (hx : p.tables.exec = Jvm.exec) : rm_KK p l e R s m args below meth c Q nL sz ext cA D .i2b 1 (rm_i1 (fun x => .int x.toInt8.toInt32)) := by
  intro q r hd hf K ls H locs hl hR hS
  obtain ⟨x, st, h1, rfl⟩ := rm_i1_ok hf
  rw [h1]
  exact lv_i2b hx rfl hd rfl (K ls H locs hl hR hS)
theorem rm_s_l2i (hx : p.tables.exec = Jvm.exec) : rm_KK p l e R s m args below meth c Q nL sz ext cA D .l2i 1 (rm_j1 (fun x => .int x.toInt32)) := by
  intro q r hd hf K ls H locs hl hR hS
  unfold rm_j1 at hf
  split at hf
  · rename_i x st h1
    cases hf
    rw [h1]
    exact lv_l2i hx rfl hd rfl (K ls H locs hl hR hS)
  · cases hf
theorem rm_s_i2c (hx : p.tables.exec = Jvm.exec) : rm_KK p l e R s m args below meth c Q nL sz ext cA D .i2c 1 (rm_i1 (fun x => .int (x.toUInt32 % 65536).toInt32)) := by
  intro q r hd hf K ls H locs hl hR hS
  obtain ⟨x, st, h1, rfl⟩ := rm_i1_ok hf
  rw [h1]
  exact lv_i2c hx rfl hd rfl (K ls H locs hl hR hS)
theorem rm_s_ineg (hx : p.tables.exec = Jvm.exec) : rm_KK p l e R s m args below meth c Q nL sz ext cA D .ineg 1 (rm_i1 (fun x => .int (-x))) := by
  intro q r hd hf K ls H locs hl hR hS
  obtain ⟨x, st, h1, rfl⟩ := rm_i1_ok hf
  rw [h1]
  exact lv_ineg hx rfl hd (K ls H locs hl hR hS)
theorem rm_s_lneg (hx : p.tables.exec = Jvm.exec) : rm_KK p l e R s m args below meth c Q nL sz ext cA D .lneg 1 (rm_j1 (fun x => .long (-x))) := by
  intro q r hd hf K ls H locs hl hR hS
  unfold rm_j1 at hf
  split at hf
  · rename_i x st h1
    cases hf
    rw [h1]
    exact lv_lneg hx rfl hd (K ls H locs hl hR hS)
  · cases hf
theorem rm_s_dup (hx : p.tables.exec = Jvm.exec) : rm_KK p l e R s m args below meth c Q nL sz ext cA D .dup 1 rm_dup := by
  intro q r hd hf K ls H locs hl hR hS
  unfold rm_dup at hf
  split at hf
  · rename_i v st h1
    split at hf
    · rename_i hv
      cases hf
      rw [h1]
      exact lv_dup hx rfl hd (by rw [rm_v_cat]; exact hv) (K ls H locs hl hR hS)
    · cases hf
  · cases hf
theorem rm_s_pop (hx : p.tables.exec = Jvm.exec) : rm_KK p l e R s m args below meth c Q nL sz ext cA D .pop 1 rm_pop := by
  intro q r hd hf K ls H locs hl hR hS
  unfold rm_pop at hf
  split at hf
  · rename_i v st h1
    split at hf
    · rename_i hv
      cases hf
      rw [h1]
      exact lv_pop hx rfl hd (by rw [rm_v_cat]; exact hv) (K ls H locs hl hR hS)
    · cases hf
  · cases hf
theorem rm_tgt_ok {pc g : Nat} {off : Int} (h : rm_tgt pc off = some g) : (pc : Int) + off = (g : Int) := by
  unfold rm_tgt at h
  split at h
  · rename_i h0
    have := Option.some.inj h
    omega
  · cases h
theorem rm_s_pop2 (hx : p.tables.exec = Jvm.exec) : rm_KK p l e R s m args below meth c Q nL sz ext cA D .pop2 1 rm_pop2 := by
  intro q r hd hf K ls H locs hl hR hS
  unfold rm_pop2 at hf
  split at hf
  · rename_i x st h1
    cases hf
    rw [h1]
    exact lv_pop2_2 hx rfl hd rfl (K ls H locs hl hR hS)
  · cases hf
theorem rm_s_dup2 (hx : p.tables.exec = Jvm.exec) : rm_KK p l e R s m args below meth c Q nL sz ext cA D .dup2 1 rm_dup2 := by
  intro q r hd hf K ls H locs hl hR hS
  unfold rm_dup2 at hf
  split at hf
  · rename_i x st h1
    cases hf
    rw [h1]
    exact lv_dup2_2 hx rfl hd rfl (K ls H locs hl hR hS)
  · rename_i v w st h0 h1
    split at hf
    · rename_i hv
      cases hf
      rw [h1]
      exact lv_dup2_11 hx rfl hd (by rw [rm_v_cat]; exact hv.1) (by rw [rm_v_cat]; exact hv.2) (K ls H locs hl hR hS)
    · cases hf
  · cases hf
theorem rm_s_goto (hx : p.tables.exec = Jvm.exec) {off : Int} : rm_KK p l e R s m args below meth c Q nL sz ext cA D (.goto off) 3 (rm_goto off) := by
  intro q r hd hf K ls H locs hl hR hS
  unfold rm_goto at hf
  split at hf
  · rename_i g hg
    cases hf
    exact lv_goto hx rfl hd (rm_tgt_ok hg) (K ls H locs hl hR hS)
  · cases hf
theorem rm_s_if1 (hx : p.tables.exec = Jvm.exec) {cd : ClassFile.Cond} {off : Int} : rm_KK p l e R s m args below meth c Q nL sz ext cA D (.ifCond cd off) 3 (rm_if1 cd off) := by
  intro q r hd hf K ls H locs hl hR hS
  unfold rm_if1 at hf
  split at hf
  · rename_i x st g h1 hg
    cases hf
    have hk := K ls H locs hl hR hS
    dsimp only at hk
    rw [h1]
    have ht := rm_tgt_ok hg
    cases cd
    · refine lv_if_eq hx rfl hd ht (fun z => ?_) (fun z => ?_)
      · simp only [rm_cnd, z, decide_true, if_true] at hk; exact hk
      · simp only [rm_cnd, z, decide_false] at hk; exact hk
    · refine lv_if_ne hx rfl hd ht (fun z => ?_) (fun z => ?_)
      · simp only [rm_cnd, z, not_false_eq_true, decide_true, if_true] at hk; exact hk
      · simp only [rm_cnd, z, decide_false] at hk; exact hk
    · refine lv_if_lt hx rfl hd ht (fun z => ?_) (fun z => ?_)
      · simp only [rm_cnd, z, decide_true, if_true] at hk; exact hk
      · simp only [rm_cnd, z, decide_false] at hk; exact hk
    · refine lv_if_ge hx rfl hd ht (fun z => ?_) (fun z => ?_)
      · simp only [rm_cnd, z, decide_true, if_true] at hk; exact hk
      · simp only [rm_cnd, z, decide_false] at hk; exact hk
    · refine lv_if_gt hx rfl hd ht (fun z => ?_) (fun z => ?_)
      · simp only [rm_cnd, z, decide_true, if_true] at hk; exact hk
      · simp only [rm_cnd, z, decide_false] at hk; exact hk
    · refine lv_if_le hx rfl hd ht (fun z => ?_) (fun z => ?_)
      · simp only [rm_cnd, z, decide_true, if_true] at hk; exact hk
      · simp only [rm_cnd, z, decide_false] at hk; exact hk
  · cases hf
theorem rm_s_if2 (hx : p.tables.exec = Jvm.exec) {cd : ClassFile.Cond} {off : Int} : rm_KK p l e R s m args below meth c Q nL sz ext cA D (.if_icmp cd off) 3 (rm_if2 cd off) := by
  intro q r hd hf K ls H locs hl hR hS
  unfold rm_if2 at hf
  split at hf
  · rename_i y x st g h1 hg
    cases hf
    have hk := K ls H locs hl hR hS
    dsimp only at hk
    rw [h1]
    have ht := rm_tgt_ok hg
    cases cd
    · refine lv_icmp_eq hx rfl hd ht (fun z => ?_) (fun z => ?_)
      · simp only [rm_cnd, z, decide_true, if_true] at hk; exact hk
      · simp only [rm_cnd, z, decide_false] at hk; exact hk
    · refine lv_icmp_ne hx rfl hd ht (fun z => ?_) (fun z => ?_)
      · simp only [rm_cnd, z, not_false_eq_true, decide_true, if_true] at hk; exact hk
      · simp only [rm_cnd, z, decide_false] at hk; exact hk
    · refine lv_icmp_lt hx rfl hd ht (fun z => ?_) (fun z => ?_)
      · simp only [rm_cnd, z, decide_true, if_true] at hk; exact hk
      · simp only [rm_cnd, z, decide_false] at hk; exact hk
    · refine lv_icmp_ge hx rfl hd ht (fun z => ?_) (fun z => ?_)
      · simp only [rm_cnd, z, decide_true, if_true] at hk; exact hk
      · simp only [rm_cnd, z, decide_false] at hk; exact hk
    · refine lv_icmp_gt hx rfl hd ht (fun z => ?_) (fun z => ?_)
      · simp only [rm_cnd, z, decide_true, if_true] at hk; exact hk
      · simp only [rm_cnd, z, decide_false] at hk; exact hk
    · refine lv_icmp_le hx rfl hd ht (fun z => ?_) (fun z => ?_)
      · simp only [rm_cnd, z, decide_true, if_true] at hk; exact hk
      · simp only [rm_cnd, z, decide_false] at hk; exact hk
  · cases hf
end RM
