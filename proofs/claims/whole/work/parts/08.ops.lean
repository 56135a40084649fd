/-! THE DISPATCHER -/
def rm_is (n k : Nat) (f : rm_N → Option rm_N) : Option (rm_N → Option rm_N) := if n = k then some f else none
theorem rm_is_ok {n k : Nat} {f g : rm_N → Option rm_N} (h : rm_is n k f = some g) : n = k ∧ f = g := by
  unfold rm_is at h
  split at h
  · rename_i e; exact ⟨e, Option.some.inj h⟩
  · cases h
def rm_op (nL : Nat) (ini : Bool) (oc : Nat) (ks : List rm_K5) (L : Nat) (ys : Nat → Int32) (i : Instr) (n : Nat) : Option (rm_N → Option rm_N) := match i with
  | .iconst k => rm_is n 1 (rm_push 1 (.int (Int32.ofInt k)))
  | .bipush k => rm_is n 2 (rm_push 2 (.int (Int8.ofInt k).toInt32))
  | .sipush k => rm_is n 3 (rm_push 3 (.int (Int16.ofInt k).toInt32))
  | .lconst k => rm_is n 1 (rm_push 1 (.long (Int64.ofNat (k : Nat))))
  | .iload_n k => rm_is n 1 (rm_loadT rm_isI 1 (k : Nat))
  | .iload k => rm_is n 2 (rm_loadT rm_isI 2 k)
  | .lload_n k => rm_is n 1 (rm_loadT rm_isJ 1 (k : Nat))
  | .lload k => rm_is n 2 (rm_loadT rm_isJ 2 k)
  | .aload_n k => rm_is n 1 (rm_loadT rm_isA 1 (k : Nat))
  | .aload k => rm_is n 2 (rm_loadT rm_isA 2 k)
  | .istore_n k => rm_is n 1 (rm_store1 rm_isI nL 1 (k : Nat))
  | .istore k => rm_is n 2 (rm_store1 rm_isI nL 2 k)
  | .astore_n k => rm_is n 1 (rm_store1 rm_isA nL 1 (k : Nat))
  | .astore k => rm_is n 2 (rm_store1 rm_isA nL 2 k)
  | .lstore_n k => rm_is n 1 (rm_store2 nL 1 (k : Nat))
  | .lstore k => rm_is n 2 (rm_store2 nL 2 k)
  | .iinc j k => rm_is n 3 (rm_iinc nL j k)
  | .iadd => rm_is n 1 (rm_ii (fun x y => x + y))
  | .isub => rm_is n 1 (rm_ii (fun x y => x - y))
  | .imul => rm_is n 1 (rm_ii (fun x y => x * y))
  | .iand => rm_is n 1 (rm_ii (fun x y => x &&& y))
  | .ior => rm_is n 1 (rm_ii (fun x y => x ||| y))
  | .ixor => rm_is n 1 (rm_ii (fun x y => x ^^^ y))
  | .ishl => rm_is n 1 (rm_ii (fun x y => x <<< (y &&& 31)))
  | .ishr => rm_is n 1 (rm_ii (fun x y => x >>> (y &&& 31)))
  | .iushr => rm_is n 1 (rm_ii (fun x y => (x.toUInt32 >>> (y.toUInt32 &&& Int32.toUInt32 31)).toInt32))
  | .irem => rm_is n 1 (rm_iiz (fun x y => x - x / y * y))
  | .idiv => rm_is n 1 (rm_iiz (fun x y => x / y))
  | .ineg => rm_is n 1 (rm_i1 (fun x => .int (-x)))
  | .lneg => rm_is n 1 (rm_j1 (fun x => .long (-x)))
  | .ladd => rm_is n 1 (rm_jj (fun x y => x + y))
  | .lsub => rm_is n 1 (rm_jj (fun x y => x - y))
  | .lmul => rm_is n 1 (rm_jj (fun x y => x * y))
  | .land => rm_is n 1 (rm_jj (fun x y => x &&& y))
  | .lor => rm_is n 1 (rm_jj (fun x y => x ||| y))
  | .lxor => rm_is n 1 (rm_jj (fun x y => x ^^^ y))
  | .ldiv => rm_is n 1 (rm_jjz (fun x y => x / y))
  | .lrem => rm_is n 1 (rm_jjz (fun x y => x - x / y * y))
  | .lshl => rm_is n 1 (rm_jij (fun x y => x <<< (y.toInt64 &&& 63)))
  | .lshr => rm_is n 1 (rm_jij (fun x y => x >>> (y.toInt64 &&& 63)))
  | .lcmp => rm_is n 1 (rm_jji lg_cmp)
  | .lushr => rm_is n 1 (rm_jij (fun x y => (x.toUInt64 >>> (y.toInt64.toUInt64 &&& Int64.toUInt64 63)).toInt64))
  | .i2l => rm_is n 1 (rm_i1 (fun x => .long x.toInt64))
  | .i2c => rm_is n 1 (rm_i1 (fun x => .int (x.toUInt32 % 65536).toInt32))
  | .i2b => rm_is n 1 (rm_i1 (fun x => .int x.toInt8.toInt32))
  | .l2i => rm_is n 1 (rm_j1 (fun x => .int x.toInt32))
  | .dup => rm_is n 1 (rm_dup)
  | .dup2 => rm_is n 1 (rm_dup2)
  | .pop2 => rm_is n 1 (rm_pop2)
  | .pop => rm_is n 1 (rm_pop)
  | .goto off => rm_is n 3 (rm_goto off)
  | .ifCond cd off => rm_is n 3 (rm_if1 cd off)
  | .if_icmp cd off => rm_is n 3 (rm_if2 cd off)
  | .getfield k => rm_is n 3 (rm_getfA (rm_lk ks k))
  | .putfield k => rm_is n 3 (rm_putfA ini oc (rm_lk ks k))
  | .new k => rm_is n 3 (rm_new (rm_lk ks k))
  | .anewarray k => rm_is n 3 (rm_newq (rm_lk ks k))
  | .newarray .int => rm_is n 2 (rm_newa 0)
  | .newarray .long => rm_is n 2 (rm_newa 1)
  | .newarray .char => rm_is n 2 (rm_newa 2)
  | .newarray .byte => rm_is n 2 (rm_newa 3)
  | .newarray .boolean => rm_is n 2 (rm_newa 4)
  | .arraylength => rm_is n 1 (rm_alen L)
  | .iaload => rm_is n 1 (rm_iald L ys)
  | .laload => rm_is n 1 (rm_lald)
  | .caload => rm_is n 1 (rm_cald)
  | .aaload => rm_is n 1 (rm_aald)
  | .iastore => rm_is n 1 (rm_iast 0 .int)
  | .castore => rm_is n 1 (rm_iast 2 .char)
  | .bastore => rm_is n 1 (rm_bast)
  | .lastore => rm_is n 1 (rm_last)
  | .aastore => rm_is n 1 (rm_aast)
  | .ldc k => rm_is n 2 (rm_ldcA (rm_lk ks k))
  | .getstatic k => rm_is n 3 (rm_gets (rm_lk ks k))
  | .baload => rm_is n 1 (rm_bald)
  | .ldc_w k => rm_is n 3 (rm_ldc 3 (rm_lk ks k))
  | .ldc2_w k => rm_is n 3 (rm_ldc2 (rm_lk ks k))
  | .tableswitch d lo hi offs => some (rm_table d lo hi offs.toList)
  | _ => none
section RMO
variable {p : Program} {l : Launch} {e : Env} {R : Room} {s : State} {m : MethodId} {args : Array Value} {below : List Frame} {meth : Method} {c : Code} {Q : State → Prop}
variable {nL sz : Nat} {ext : Nat → Nat} {cA : Nat → ClassId} {D : va_G} {own : String} {L : Nat} {ys : Nat → Int32} {ks : List rm_K5}
abbrev rm_KA (p : Program) (l : Launch) (e : Env) (R : Room) (s : State) (m : MethodId) (args : Array Value) (below : List Frame) (meth : Method) (c : Code) (Q : State → Prop) (nL sz : Nat) (ext : Nat → Nat) (cA : Nat → ClassId) (D : va_G) (i : Instr) (n : Nat) (f : rm_N → Option rm_N) : Prop :=
  ∀ (q r : rm_N), decode c.code q.1 = .ok (i, n) → f q = some r → r.2.2.2.2.1 ≤ R.cells → r.2.2.2.2.2 ≤ R.slots → rm_K p l e R s m args below meth c Q nL sz ext cA D r → rm_K p l e R s m args below meth c Q nL sz ext cA D q
theorem rm_KK.toA {i : Instr} {n k : Nat} {f g : rm_N → Option rm_N} (h : rm_KK p l e R s m args below meth c Q nL sz ext cA D i k f) (z : rm_is n k f = some g) : rm_KA p l e R s m args below meth c Q nL sz ext cA D i n g := by
  obtain ⟨rfl, rfl⟩ := rm_is_ok z
  exact fun q r h1 h2 _ _ h4 => h q r h1 h2 h4
theorem rm_KR.toA {i : Instr} {n k : Nat} {f g : rm_N → Option rm_N} (h : rm_KR p l e R s m args below meth c Q nL sz ext cA D i k f) (z : rm_is n k f = some g) : rm_KA p l e R s m args below meth c Q nL sz ext cA D i n g := by
  obtain ⟨rfl, rfl⟩ := rm_is_ok z
  exact fun q r h1 h2 h5 h6 h4 => h q r h1 h2 h5 h6 h4
theorem rm_s_table (hx : p.tables.exec = Jvm.exec) {d lo hi : Int} {offs : Array Int} {n : Nat} : rm_KA p l e R s m args below meth c Q nL sz ext cA D (.tableswitch d lo hi offs) n (rm_table d lo hi offs.toList) := by
  intro q r hd hf _ _ K ls H locs hl hR hS
  unfold rm_table at hf
  split at hf
  · rename_i x st hst
    rw [hst]
    split at hf
    · rename_i hlo
      split at hf
      · rename_i g hg
        cases hf
        exact lv_tableOut hx rfl hd hlo (rm_tgt_ok hg) (K ls H locs hl hR hS)
      · cases hf
    · rename_i hlo
      split at hf
      · rename_i off hoff
        split at hf
        · rename_i g hg
          cases hf
          exact lv_tableIn hx rfl hd (fun z => hlo (Or.inl z)) (fun z => hlo (Or.inr z)) (by rw [← Array.getElem?_toList]; exact hoff) (rm_tgt_ok hg) (K ls H locs hl hR hS)
        · cases hf
      · cases hf
  · cases hf
theorem rm_op_s (hx : p.tables.exec = Jvm.exec) (hts : ∀ w ∈ rm_tb, w.before args s = true) (hX : rm_X D cA sz ext L ys s) (hown : s.vm.findClass own = some m.cls) (hks : ∀ k ∈ ks, rm_okK own k) {ini : Bool} {oc : Nat} (hini : ini = true → meth.name = "<init>" ∧ ∃ q, vwCl[oc]? = some q ∧ q.1 = own) {i : Instr} {n : Nat} {g : rm_N → Option rm_N} (h : rm_op nL ini oc ks L ys i n = some g) : rm_KA p l e R s m args below meth c Q nL sz ext cA D i n g := by
  unfold rm_op at h
  split at h
  · exact rm_KK.toA (rm_s_iconst hx) h
  · exact rm_KK.toA (rm_s_bipush hx) h
  · exact rm_KK.toA (rm_s_sipush hx) h
  · exact rm_KK.toA (rm_s_lconst hx) h
  · exact rm_KK.toA (rm_s_iload_n hx) h
  · exact rm_KK.toA (rm_s_iload hx) h
  · exact rm_KK.toA (rm_s_lload_n hx) h
  · exact rm_KK.toA (rm_s_lload hx) h
  · exact rm_KK.toA (rm_s_aload_n hx) h
  · exact rm_KK.toA (rm_s_aload hx) h
  · exact rm_KK.toA (rm_s_istore_n hx) h
  · exact rm_KK.toA (rm_s_istore hx) h
  · exact rm_KK.toA (rm_s_astore_n hx) h
  · exact rm_KK.toA (rm_s_astore hx) h
  · exact rm_KK.toA (rm_s_lstore_n hx) h
  · exact rm_KK.toA (rm_s_lstore hx) h
  · exact rm_KK.toA (rm_s_iinc hx) h
  · exact rm_KK.toA (rm_s_iadd hx) h
  · exact rm_KK.toA (rm_s_isub hx) h
  · exact rm_KK.toA (rm_s_imul hx) h
  · exact rm_KK.toA (rm_s_iand hx) h
  · exact rm_KK.toA (rm_s_ior hx) h
  · exact rm_KK.toA (rm_s_ixor hx) h
  · exact rm_KK.toA (rm_s_ishl hx) h
  · exact rm_KK.toA (rm_s_ishr hx) h
  · exact rm_KK.toA (rm_s_iushr hx) h
  · exact rm_KK.toA (rm_s_irem hx) h
  · exact rm_KK.toA (rm_s_idiv hx) h
  · exact rm_KK.toA (rm_s_ineg hx) h
  · exact rm_KK.toA (rm_s_lneg hx) h
  · exact rm_KK.toA (rm_s_ladd hx) h
  · exact rm_KK.toA (rm_s_lsub hx) h
  · exact rm_KK.toA (rm_s_lmul hx) h
  · exact rm_KK.toA (rm_s_land hx) h
  · exact rm_KK.toA (rm_s_lor hx) h
  · exact rm_KK.toA (rm_s_lxor hx) h
  · exact rm_KK.toA (rm_s_ldiv hx) h
  · exact rm_KK.toA (rm_s_lrem hx) h
  · exact rm_KK.toA (rm_s_lshl hx) h
  · exact rm_KK.toA (rm_s_lshr hx) h
  · exact rm_KK.toA (rm_s_lcmp hx) h
  · exact rm_KK.toA (rm_s_lushr hx) h
  · exact rm_KK.toA (rm_s_i2l hx) h
  · exact rm_KK.toA (rm_s_i2c hx) h
  · exact rm_KK.toA (rm_s_i2b hx) h
  · exact rm_KK.toA (rm_s_l2i hx) h
  · exact rm_KK.toA (rm_s_dup hx) h
  · exact rm_KK.toA (rm_s_dup2 hx) h
  · exact rm_KK.toA (rm_s_pop2 hx) h
  · exact rm_KK.toA (rm_s_pop hx) h
  · exact rm_KK.toA (rm_s_goto hx) h
  · exact rm_KK.toA (rm_s_if1 hx) h
  · exact rm_KK.toA (rm_s_if2 hx) h
  · exact rm_KR.toA (rm_s_getfA hx hts hX hown hks) h
  · exact rm_KR.toA (rm_s_putfA hx hts hX hown hks hini) h
  · exact rm_KR.toA (rm_s_new hx hts hX hown hks) h
  · exact rm_KR.toA (rm_s_newq hx hts hX hown hks) h
  · exact rm_KR.toA (rm_newa_s (t := 0) (ty := .int) hx hts hX rfl rfl (fun _ z => by cases z) (by decide) (by decide +kernel) (fun _ _ => rfl)) h
  · exact rm_KR.toA (rm_newa_s (t := 1) (ty := .long) hx hts hX rfl rfl (fun _ z => by cases z) (by decide) (by decide +kernel) (fun _ _ => rfl)) h
  · exact rm_KR.toA (rm_newa_s (t := 2) (ty := .char) hx hts hX rfl rfl (fun _ z => by cases z) (by decide) (by decide +kernel) (fun _ _ => rfl)) h
  · exact rm_KR.toA (rm_newa_s (t := 3) (ty := .byte) hx hts hX rfl rfl (fun _ z => by cases z) (by decide) (by decide +kernel) (fun _ _ => rfl)) h
  · exact rm_KR.toA (rm_newa_s (t := 4) (ty := .boolean) hx hts hX rfl rfl (fun _ z => by cases z) (by decide) (by decide +kernel) (fun _ _ => rfl)) h
  · exact rm_KR.toA (rm_s_alen hx hX) h
  · exact rm_KR.toA (rm_s_iald hx hX) h
  · exact rm_KR.toA (rm_s_lald hx hX) h
  · exact rm_KR.toA (rm_s_cald hx hX) h
  · exact rm_KR.toA (rm_s_aald hx hX) h
  · exact rm_KR.toA (rm_s_iast hx hX) h
  · exact rm_KR.toA (rm_s_cast hx hX) h
  · exact rm_KR.toA (rm_s_bast hx hX) h
  · exact rm_KR.toA (rm_s_last hx hX) h
  · exact rm_KR.toA (rm_s_aast hx hX) h
  · exact rm_KR.toA (rm_s_ldcA hx hts hX hown hks) h
  · exact rm_KR.toA (rm_s_gets hx hts hX hown hks) h
  · exact rm_KR.toA (rm_s_bald hx hX) h
  · exact rm_KR.toA (rm_s_ldcw hx hts hown hks) h
  · exact rm_KR.toA (rm_s_ldc2 hx hts hown hks) h
  · cases h; exact rm_s_table hx
  · cases h
end RMO
