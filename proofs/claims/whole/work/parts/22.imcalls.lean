/-! WHOLE NUMBERS: THE DISPATCHER, CALLS, THE LOOP -/
section IMC
variable {G : List im_D}
def im_ldc (n : Nat) (k : Option (Nat × Nat × Nat × Nat)) (q : im_N) : Option im_N := match k with
  | some (4, a, _, _) => im_push n (im_ov (.int (Int32.ofNat a))) q
  | _ => none
theorem im_ldc_s {n : Nat} {k : Option (Nat × Nat × Nat × Nat)} : im_sim G (rm_ldc n k) (im_ldc n k) := by
  intro q r hw hf
  unfold im_ldc at hf
  split at hf
  · exact im_push_s (G := G) rfl q r hw hf
  · cases hf
def im_ldc2 (k : Option (Nat × Nat × Nat × Nat)) (q : im_N) : Option im_N := match k with
  | some (5, a, _, _) => im_push 3 (im_ov (.long (Int64.ofNat a))) q
  | _ => none
theorem im_ldc2_s {k : Option (Nat × Nat × Nat × Nat)} : im_sim G (rm_ldc2 k) (im_ldc2 k) := by
  intro q r hw hf
  unfold im_ldc2 at hf
  split at hf
  · exact im_push_s (G := G) rfl q r hw hf
  · cases hf
def im_ldcA (k : Option (Nat × Nat × Nat × Nat)) (q : im_N) : Option im_N := match k with
  | some (6, t, _, _) => im_push 2 (im_ov (.retAddr (2 + 2 * t))) q
  | _ => im_ldc 2 k q
theorem im_ldcA_s {k : Option (Nat × Nat × Nat × Nat)} : im_sim G (rm_ldcA k) (im_ldcA k) := by
  intro q r hw hf
  unfold im_ldcA at hf
  split at hf
  · exact im_push_s (G := G) rfl q r hw hf
  · rename_i h9
    have z := im_ldc_s (G := G) (n := 2) (k := k) q r hw hf
    refine ⟨?_, z.2⟩
    rw [← z.1]
    unfold rm_ldcA
    split
    · exact absurd rfl (h9 _ _ _)
    · rfl
def im_gets (k : Option (Nat × Nat × Nat × Nat)) (q : im_N) : Option im_N := match k with
  | some (8, _, _, _) => im_push 3 (im_ov (.int 1)) q
  | some (9, _, _, _) => im_push 3 (im_ov (.retAddr 6)) q
  | _ => none
theorem im_gets_s {k : Option (Nat × Nat × Nat × Nat)} : im_sim G (rm_gets k) (im_gets k) := by
  intro q r hw hf
  unfold im_gets at hf
  split at hf
  · exact im_push_s (G := G) rfl q r hw hf
  · exact im_push_s (G := G) rfl q r hw hf
  · cases hf
def im_is (n k : Nat) (f : im_N → Option im_N) : Option (im_N → Option im_N) := if n = k then some f else none
theorem im_is_ok {n k : Nat} {f g : im_N → Option im_N} (h : im_is n k f = some g) : n = k ∧ f = g := by
  unfold im_is at h
  split at h
  · rename_i e; exact ⟨e, Option.some.inj h⟩
  · cases h
def im_op (G : List im_D) (nL : Nat) (ks : List rm_K5) (L : Nat) (ys : Nat → Int32) (i : Instr) (n : Nat) : Option (im_N → Option im_N) := match i with
  | .iconst k => im_is n 1 (im_push 1 (im_ov (.int (Int32.ofInt k))))
  | .bipush k => im_is n 2 (im_push 2 (im_ov (.int (Int8.ofInt k).toInt32)))
  | .sipush k => im_is n 3 (im_push 3 (im_ov (.int (Int16.ofInt k).toInt32)))
  | .lconst k => im_is n 1 (im_push 1 (im_ov (.long (Int64.ofNat (k : Nat)))))
  | .iload_n k => im_is n 1 (im_loadT im_isI 1 (k : Nat))
  | .iload k => im_is n 2 (im_loadT im_isI 2 k)
  | .lload_n k => im_is n 1 (im_loadT im_isJ 1 (k : Nat))
  | .lload k => im_is n 2 (im_loadT im_isJ 2 k)
  | .aload_n k => im_is n 1 (im_loadT im_isA 1 (k : Nat))
  | .aload k => im_is n 2 (im_loadT im_isA 2 k)
  | .istore_n k => im_is n 1 (im_store1 im_isI nL 1 (k : Nat))
  | .istore k => im_is n 2 (im_store1 im_isI nL 2 k)
  | .astore_n k => im_is n 1 (im_store1 im_isA nL 1 (k : Nat))
  | .astore k => im_is n 2 (im_store1 im_isA nL 2 k)
  | .lstore_n k => im_is n 1 (im_store2 nL 1 (k : Nat))
  | .lstore k => im_is n 2 (im_store2 nL 2 k)
  | .iinc j k => im_is n 3 (im_iinc nL j k)
  | .iadd => im_is n 1 (im_ii (fun x y => x + y))
  | .isub => im_is n 1 (im_ii (fun x y => x - y))
  | .imul => im_is n 1 (im_ii (fun x y => x * y))
  | .iand => im_is n 1 (im_ii (fun x y => x &&& y))
  | .ior => im_is n 1 (im_ii (fun x y => x ||| y))
  | .ixor => im_is n 1 (im_ii (fun x y => x ^^^ y))
  | .ishl => im_is n 1 (im_ii (fun x y => x <<< (y &&& 31)))
  | .ishr => im_is n 1 (im_ii (fun x y => x >>> (y &&& 31)))
  | .iushr => im_is n 1 (im_ii (fun x y => (x.toUInt32 >>> (y.toUInt32 &&& Int32.toUInt32 31)).toInt32))
  | .irem => im_is n 1 (im_iiz (fun x y => x - x / y * y))
  | .idiv => im_is n 1 (im_iiz (fun x y => x / y))
  | .ineg => im_is n 1 (im_i1 (fun x => .int (-x)))
  | .lneg => im_is n 1 (im_j1 (fun x => .long (-x)))
  | .ladd => im_is n 1 (im_jj (fun x y => x + y))
  | .lsub => im_is n 1 (im_jj (fun x y => x - y))
  | .lmul => im_is n 1 (im_jj (fun x y => x * y))
  | .land => im_is n 1 (im_jj (fun x y => x &&& y))
  | .lor => im_is n 1 (im_jj (fun x y => x ||| y))
  | .lxor => im_is n 1 (im_jj (fun x y => x ^^^ y))
  | .ldiv => im_is n 1 (im_jjz (fun x y => x / y))
  | .lrem => im_is n 1 (im_jjz (fun x y => x - x / y * y))
  | .lshl => im_is n 1 (im_jij (fun x y => x <<< (y.toInt64 &&& 63)))
  | .lshr => im_is n 1 (im_jij (fun x y => x >>> (y.toInt64 &&& 63)))
  | .lushr => im_is n 1 (im_jij (fun x y => (x.toUInt64 >>> (y.toInt64.toUInt64 &&& Int64.toUInt64 63)).toInt64))
  | .lcmp => im_is n 1 (im_jji lg_cmp)
  | .i2l => im_is n 1 (im_i1 (fun x => .long x.toInt64))
  | .i2c => im_is n 1 (im_i1 (fun x => .int (x.toUInt32 % 65536).toInt32))
  | .i2b => im_is n 1 (im_i1 (fun x => .int x.toInt8.toInt32))
  | .l2i => im_is n 1 (im_j1 (fun x => .int x.toInt32))
  | .dup => im_is n 1 (im_dup)
  | .dup2 => im_is n 1 (im_dup2)
  | .pop => im_is n 1 (im_pop)
  | .pop2 => im_is n 1 (im_pop2)
  | .goto off => im_is n 3 (im_goto off)
  | .ifCond cd off => im_is n 3 (im_if1 cd off)
  | .if_icmp cd off => im_is n 3 (im_if2 cd off)
  | .getfield k => im_is n 3 (im_getf G (rm_lk ks k))
  | .putfield k => im_is n 3 (im_putf G (rm_lk ks k))
  | .arraylength => im_is n 1 (im_alen G L)
  | .iaload => im_is n 1 (im_iald G L ys)
  | .laload => im_is n 1 (im_lald G)
  | .caload => im_is n 1 (im_cald G)
  | .baload => im_is n 1 (im_bald G)
  | .aaload => im_is n 1 (im_aald G)
  | .iastore => im_is n 1 (im_iast G 0)
  | .castore => im_is n 1 (im_iast G 2)
  | .bastore => im_is n 1 (im_bast G)
  | .lastore => im_is n 1 (im_last G)
  | .ldc k => im_is n 2 (im_ldcA (rm_lk ks k))
  | .ldc_w k => im_is n 3 (im_ldc 3 (rm_lk ks k))
  | .ldc2_w k => im_is n 3 (im_ldc2 (rm_lk ks k))
  | .getstatic k => im_is n 3 (im_gets (rm_lk ks k))
  | .tableswitch d lo hi offs => some (im_table d lo hi offs.toList)
  | _ => none
theorem im_op_s {nL : Nat} {ini : Bool} {oc : Nat} {ks : List rm_K5} {L : Nat} {ys : Nat → Int32} {i : Instr} {n : Nat} {f : im_N → Option im_N} (h : im_op G nL ks L ys i n = some f) : ∃ g, rm_op nL ini oc ks L ys i n = some g ∧ im_sim G g f := by
  unfold im_op at h
  split at h
  · obtain ⟨rfl, rfl⟩ := im_is_ok h; exact ⟨_, rfl, im_push_s rfl⟩
  · obtain ⟨rfl, rfl⟩ := im_is_ok h; exact ⟨_, rfl, im_push_s rfl⟩
  · obtain ⟨rfl, rfl⟩ := im_is_ok h; exact ⟨_, rfl, im_push_s rfl⟩
  · obtain ⟨rfl, rfl⟩ := im_is_ok h; exact ⟨_, rfl, im_push_s rfl⟩
  · obtain ⟨rfl, rfl⟩ := im_is_ok h; exact ⟨_, rfl, im_loadT_s (fun _ h => im_isI_c h)⟩
  · obtain ⟨rfl, rfl⟩ := im_is_ok h; exact ⟨_, rfl, im_loadT_s (fun _ h => im_isI_c h)⟩
  · obtain ⟨rfl, rfl⟩ := im_is_ok h; exact ⟨_, rfl, im_loadT_s (fun _ h => im_isJ_c h)⟩
  · obtain ⟨rfl, rfl⟩ := im_is_ok h; exact ⟨_, rfl, im_loadT_s (fun _ h => im_isJ_c h)⟩
  · obtain ⟨rfl, rfl⟩ := im_is_ok h; exact ⟨_, rfl, im_loadT_s (fun _ h => im_isA_c h)⟩
  · obtain ⟨rfl, rfl⟩ := im_is_ok h; exact ⟨_, rfl, im_loadT_s (fun _ h => im_isA_c h)⟩
  · obtain ⟨rfl, rfl⟩ := im_is_ok h; exact ⟨_, rfl, im_store1_s (fun _ h => im_isI_c h)⟩
  · obtain ⟨rfl, rfl⟩ := im_is_ok h; exact ⟨_, rfl, im_store1_s (fun _ h => im_isI_c h)⟩
  · obtain ⟨rfl, rfl⟩ := im_is_ok h; exact ⟨_, rfl, im_store1_s (fun _ h => im_isA_c h)⟩
  · obtain ⟨rfl, rfl⟩ := im_is_ok h; exact ⟨_, rfl, im_store1_s (fun _ h => im_isA_c h)⟩
  · obtain ⟨rfl, rfl⟩ := im_is_ok h; exact ⟨_, rfl, im_store2_s⟩
  · obtain ⟨rfl, rfl⟩ := im_is_ok h; exact ⟨_, rfl, im_store2_s⟩
  · obtain ⟨rfl, rfl⟩ := im_is_ok h; exact ⟨_, rfl, im_iinc_s⟩
  · obtain ⟨rfl, rfl⟩ := im_is_ok h; exact ⟨_, rfl, im_ii_s⟩
  · obtain ⟨rfl, rfl⟩ := im_is_ok h; exact ⟨_, rfl, im_ii_s⟩
  · obtain ⟨rfl, rfl⟩ := im_is_ok h; exact ⟨_, rfl, im_ii_s⟩
  · obtain ⟨rfl, rfl⟩ := im_is_ok h; exact ⟨_, rfl, im_ii_s⟩
  · obtain ⟨rfl, rfl⟩ := im_is_ok h; exact ⟨_, rfl, im_ii_s⟩
  · obtain ⟨rfl, rfl⟩ := im_is_ok h; exact ⟨_, rfl, im_ii_s⟩
  · obtain ⟨rfl, rfl⟩ := im_is_ok h; exact ⟨_, rfl, im_ii_s⟩
  · obtain ⟨rfl, rfl⟩ := im_is_ok h; exact ⟨_, rfl, im_ii_s⟩
  · obtain ⟨rfl, rfl⟩ := im_is_ok h; exact ⟨_, rfl, im_ii_s⟩
  · obtain ⟨rfl, rfl⟩ := im_is_ok h; exact ⟨_, rfl, im_iiz_s⟩
  · obtain ⟨rfl, rfl⟩ := im_is_ok h; exact ⟨_, rfl, im_iiz_s⟩
  · obtain ⟨rfl, rfl⟩ := im_is_ok h; exact ⟨_, rfl, im_i1_s⟩
  · obtain ⟨rfl, rfl⟩ := im_is_ok h; exact ⟨_, rfl, im_j1_s⟩
  · obtain ⟨rfl, rfl⟩ := im_is_ok h; exact ⟨_, rfl, im_jj_s⟩
  · obtain ⟨rfl, rfl⟩ := im_is_ok h; exact ⟨_, rfl, im_jj_s⟩
  · obtain ⟨rfl, rfl⟩ := im_is_ok h; exact ⟨_, rfl, im_jj_s⟩
  · obtain ⟨rfl, rfl⟩ := im_is_ok h; exact ⟨_, rfl, im_jj_s⟩
  · obtain ⟨rfl, rfl⟩ := im_is_ok h; exact ⟨_, rfl, im_jj_s⟩
  · obtain ⟨rfl, rfl⟩ := im_is_ok h; exact ⟨_, rfl, im_jj_s⟩
  · obtain ⟨rfl, rfl⟩ := im_is_ok h; exact ⟨_, rfl, im_jjz_s⟩
  · obtain ⟨rfl, rfl⟩ := im_is_ok h; exact ⟨_, rfl, im_jjz_s⟩
  · obtain ⟨rfl, rfl⟩ := im_is_ok h; exact ⟨_, rfl, im_jij_s⟩
  · obtain ⟨rfl, rfl⟩ := im_is_ok h; exact ⟨_, rfl, im_jij_s⟩
  · obtain ⟨rfl, rfl⟩ := im_is_ok h; exact ⟨_, rfl, im_jij_s⟩
  · obtain ⟨rfl, rfl⟩ := im_is_ok h; exact ⟨_, rfl, im_jji_s⟩
  · obtain ⟨rfl, rfl⟩ := im_is_ok h; exact ⟨_, rfl, im_i1_s⟩
  · obtain ⟨rfl, rfl⟩ := im_is_ok h; exact ⟨_, rfl, im_i1_s⟩
  · obtain ⟨rfl, rfl⟩ := im_is_ok h; exact ⟨_, rfl, im_i1_s⟩
  · obtain ⟨rfl, rfl⟩ := im_is_ok h; exact ⟨_, rfl, im_j1_s⟩
  · obtain ⟨rfl, rfl⟩ := im_is_ok h; exact ⟨_, rfl, im_dup_s⟩
  · obtain ⟨rfl, rfl⟩ := im_is_ok h; exact ⟨_, rfl, im_dup2_s⟩
  · obtain ⟨rfl, rfl⟩ := im_is_ok h; exact ⟨_, rfl, im_pop_s⟩
  · obtain ⟨rfl, rfl⟩ := im_is_ok h; exact ⟨_, rfl, im_pop2_s⟩
  · obtain ⟨rfl, rfl⟩ := im_is_ok h; exact ⟨_, rfl, im_goto_s⟩
  · obtain ⟨rfl, rfl⟩ := im_is_ok h; exact ⟨_, rfl, im_if1_s⟩
  · obtain ⟨rfl, rfl⟩ := im_is_ok h; exact ⟨_, rfl, im_if2_s⟩
  · obtain ⟨rfl, rfl⟩ := im_is_ok h; exact ⟨_, rfl, im_getf_s⟩
  · obtain ⟨rfl, rfl⟩ := im_is_ok h; exact ⟨_, rfl, im_putf_s⟩
  · obtain ⟨rfl, rfl⟩ := im_is_ok h; exact ⟨_, rfl, im_alen_s⟩
  · obtain ⟨rfl, rfl⟩ := im_is_ok h; exact ⟨_, rfl, im_iald_s⟩
  · obtain ⟨rfl, rfl⟩ := im_is_ok h; exact ⟨_, rfl, im_lald_s⟩
  · obtain ⟨rfl, rfl⟩ := im_is_ok h; exact ⟨_, rfl, im_cald_s⟩
  · obtain ⟨rfl, rfl⟩ := im_is_ok h; exact ⟨_, rfl, im_bald_s⟩
  · obtain ⟨rfl, rfl⟩ := im_is_ok h; exact ⟨_, rfl, im_aald_s⟩
  · obtain ⟨rfl, rfl⟩ := im_is_ok h; exact ⟨_, rfl, im_iast_s (by decide) (by decide) im_nar_int⟩
  · obtain ⟨rfl, rfl⟩ := im_is_ok h; exact ⟨_, rfl, im_iast_s (by decide) (by decide) im_nar_char⟩
  · obtain ⟨rfl, rfl⟩ := im_is_ok h; exact ⟨_, rfl, im_bast_s⟩
  · obtain ⟨rfl, rfl⟩ := im_is_ok h; exact ⟨_, rfl, im_last_s⟩
  · obtain ⟨rfl, rfl⟩ := im_is_ok h; exact ⟨_, rfl, im_ldcA_s⟩
  · obtain ⟨rfl, rfl⟩ := im_is_ok h; exact ⟨_, rfl, im_ldc_s⟩
  · obtain ⟨rfl, rfl⟩ := im_is_ok h; exact ⟨_, rfl, im_ldc2_s⟩
  · obtain ⟨rfl, rfl⟩ := im_is_ok h; exact ⟨_, rfl, im_gets_s⟩
  · cases h; exact ⟨_, rfl, im_table_s⟩
  · cases h
abbrev im_Re : Type := Option im_V × im_S
abbrev im_CL : Type := Nat → List im_V → im_S → im_Re → Prop
def im_cs (r : List im_V) : Nat := (r.map fun v => if v.1 = 1 then 2 else 1).sum
def im_aft (q : im_N) (rest : List im_V) (res : im_Re) : im_N := (q.1 + 3, q.2.1, res.1.toList ++ rest, res.2)
def im_invS (call : im_CL) (mi na : Nat) (q r : im_N) : Prop := na ≤ q.2.2.1.length ∧ im_cs (q.2.2.1.drop na) ≤ 8 ∧ ∃ res, call mi (q.2.2.1.take na).reverse q.2.2.2 res ∧ r = im_aft q (q.2.2.1.drop na) res
def im_invV (G : List im_D) (call : im_CL) (oc mi na : Nat) (q r : im_N) : Prop := ∃ a rest tys, q.2.2.1.drop na = (2, a) :: rest ∧ im_cs rest ≤ 8 ∧ G[a.toNat]? = some (0, oc, tys) ∧ ∃ res, call mi ((2, a) :: (q.2.2.1.take na).reverse) q.2.2.2 res ∧ r = im_aft q rest res
def im_invF (call : im_CL) (mi na : Nat) (q r : im_N) : Prop := ∃ n rest, q.2.2.1.drop na = (4, n) :: rest ∧ (n = 2 ∨ n = 4) ∧ im_cs rest ≤ 8 ∧ ∃ res, call mi ((4, n) :: (q.2.2.1.take na).reverse) q.2.2.2 res ∧ r = im_aft q rest res
def im_inv (G : List im_D) (call : im_CL) (P : Nat → rm_M) (kd : Nat) (k : Option (Nat × Nat × Nat × Nat)) (q r : im_N) : Prop := match kd, k with
  | 0, some (3, mi, na, 0) => im_invS call mi na q r
  | 0, some (3, _, _, 5) => im_acopy G q = some r
  | 1, some (3, mi, na, 1) => im_invV G call (P mi).2.2.2.2.2 mi na q r
  | 1, some (3, mi, na, 4) => im_invF call mi na q r
  | _, _ => False
def im_one (G : List im_D) (call : im_CL) (P : Nat → rm_M) (M : rm_M) (L : Nat) (ys : Nat → Int32) (i : Instr) (n : Nat) (q r : im_N) : Prop := match rm_ck i with
  | some kk => n = 3 ∧ im_inv G call P kk.1 (rm_lk M.2.1 kk.2) q r
  | none => ∃ g, im_op G M.2.2.1 M.2.1 L ys i n = some g ∧ g q = some r
def im_ret (rt : Nat) (i : Instr) (n : Nat) (q : im_N) : Option im_Re := match i, q.2.2.1 with
  | .return_, [] => if n = 1 ∧ rt = 0 then some (none, q.2.2.2) else none
  | .ireturn, [(0, v)] => if n = 1 ∧ (rt = 1 ∨ (rt = 2 ∧ (v = 0 ∨ v = 1)) ∨ (rt = 5 ∧ v = 0)) then some (some (0, v), q.2.2.2) else none
  | .lreturn, [(1, v)] => if n = 1 ∧ rt = 3 then some (some (1, v), q.2.2.2) else none
  | .areturn, [(2, a)] => if n = 1 ∧ rt = 4 then some (some (2, a), q.2.2.2) else none
  | _, _ => none
noncomputable def im_loop (G : List im_D) (call : im_CL) (P : Nat → rm_M) (M : rm_M) (L : Nat) (ys : Nat → Int32) (f : Nat) : im_N → im_Re → Prop := Nat.rec (motive := fun _ => im_N → im_Re → Prop) (fun _ _ => False) (fun _ ih q res => ∃ i n, rm_find M.1 q.1 = some (i, n) ∧ (im_ret M.2.2.2.1 i n q = some res ∨ ∃ r, im_one G call P M L ys i n q r ∧ ih r res)) f
def im_args : Nat → List im_V → List (Nat × im_V)
  | _, [] => []
  | i, v :: r => (i, v) :: im_args (if v.1 = 1 then i + 2 else i + 1) r
noncomputable def im_call (G : List im_D) (P : Nat → rm_M) (L : Nat) (ys : Nat → Int32) (d : Nat) : im_CL := Nat.rec (motive := fun _ => im_CL) (fun _ _ _ _ => False) (fun _ ih mi av s res => (lg_sl (av.map im_cv)).length ≤ (P mi).2.2.1 ∧ ∃ f, im_loop G ih P (P mi) L ys f (0, im_args 0 av, [], s) res) d
theorem im_args_c (av : List im_V) : ∀ i, lv_args i (av.map im_cv) = im_cl (im_args i av) := by
  induction av with
  | nil => intro i; rfl
  | cons v r ih =>
    intro i
    show (i, im_cv v) :: lv_args (if (im_cv v).category = 2 then i + 2 else i + 1) (r.map im_cv) = (i, im_cv v) :: im_cl (im_args (if v.1 = 1 then i + 2 else i + 1) r)
    rw [ih, im_cv_cat]
    by_cases h : v.1 = 1 <;> simp [h]
theorem im_args_ok {av : List im_V} (h : ∀ v ∈ av, im_ok v = true) : ∀ i, ∀ p ∈ im_args i av, im_ok p.2 = true := by
  induction av with
  | nil => intro i p hp; cases hp
  | cons v r ih =>
    intro i p hp
    rcases List.mem_cons.mp hp with rfl | hp
    · exact h v List.mem_cons_self
    · exact ih (fun w hw => h w (List.mem_cons_of_mem _ hw)) _ p hp
def im_rc (G : List im_D) (res : im_Re) : rm_Re := (res.1.map im_cv, im_ch G res.2, 0, 0)
theorem im_cs_cc (r : List im_V) : rm_cs (r.map im_cv) = im_cs r := im_cs_c r
theorem im_aft_c (q : im_N) (rest : List im_V) (res : im_Re) : rm_aft (im_c G q) (rest.map im_cv) (im_rc G res) = im_c G (im_aft q rest res) := by
  unfold rm_aft im_c im_aft im_rc
  have e : (res.1.map im_cv).toList ++ rest.map im_cv = (res.1.toList ++ rest).map im_cv := by
    rw [List.map_append]
    cases res.1 <;> rfl
  simp only [e]
theorem im_aft_wf {q : im_N} {rest : List im_V} {res : im_Re} (h1 : im_wf q) (h2 : ∀ v ∈ rest, im_ok v = true) (h3 : ∀ v, res.1 = some v → im_ok v = true) : im_wf (im_aft q rest res) := by
  refine ⟨h1.1, fun v hv => ?_⟩
  rcases List.mem_append.mp hv with hv | hv
  · exact h3 v (by simpa using hv)
  · exact h2 v hv
theorem im_one_s {call : im_CL} {rcall : rm_CL} {P : Nat → rm_M} {M : rm_M} {L : Nat} {ys : Nat → Int32} (Hcall : ∀ mi av s res, call mi av s res → (∀ v ∈ av, im_ok v = true) → rcall mi (av.map im_cv) (im_ch G s) (im_rc G res) ∧ ∀ v, res.1 = some v → im_ok v = true) {i : Instr} {n : Nat} {q r : im_N} (hw : im_wf q) (h : im_one G call P M L ys i n q r) : rm_one rcall P M L ys i n (im_c G q) (im_c G r) ∧ im_wf r := by
  unfold im_one at h
  unfold rm_one
  have hst : (im_c G q).2.2.1 = q.2.2.1.map im_cv := rfl
  split at h
  · rename_i kk hkk
    obtain ⟨hn, h⟩ := h
    have htk : ∀ na, ∀ v ∈ (q.2.2.1.take na).reverse, im_ok v = true := fun na v hv => hw.2 v (List.mem_of_mem_take (List.mem_reverse.mp hv))
    have hdr : ∀ na, ∀ v ∈ q.2.2.1.drop na, im_ok v = true := fun na v hv => hw.2 v (List.mem_of_mem_drop hv)
    have hrt : ∀ na, ((q.2.2.1.map im_cv).take na).reverse = ((q.2.2.1.take na).reverse).map im_cv := fun na => by rw [List.map_reverse, List.map_take]
    rw [hkk]
    unfold im_inv at h
    split at h
    · rename_i mi na e1 e2
      obtain ⟨h1, h2, res, h3, rfl⟩ := h
      obtain ⟨k1, k2⟩ := Hcall _ _ _ _ h3 (htk na)
      refine ⟨⟨hn, ?_⟩, im_aft_wf hw (hdr na) k2⟩
      unfold rm_inv
      rw [e1, e2]
      refine ⟨by rw [hst, List.length_map]; exact h1, by rw [hst, ← List.map_drop, im_cs_cc]; exact h2, im_rc G res, ?_, ?_⟩
      · rw [hst, hrt]; exact k1
      · rw [hst, ← List.map_drop]; exact (im_aft_c q _ res).symm
    · rename_i z1 z2 e1 e2
      obtain ⟨k1, k2⟩ := im_acopy_s q r hw h
      refine ⟨⟨hn, ?_⟩, k2⟩
      unfold rm_inv
      rw [e1, e2]
      exact k1
    · rename_i mi na e1 e2
      obtain ⟨a, rest, tys, h1, h2, hG, res, h3, rfl⟩ := h
      have hd := hdr na
      rw [h1] at hd
      obtain ⟨o1, o2⟩ := im_ok_tail hd
      obtain ⟨k1, k2⟩ := Hcall _ _ _ _ h3 (im_ok_cons o1 (htk na))
      refine ⟨⟨hn, ?_⟩, im_aft_wf hw o2 k2⟩
      unfold rm_inv
      rw [e1, e2]
      refine ⟨a.toNat, rest.map im_cv, by rw [hst, ← List.map_drop, h1]; rfl, by rw [im_cs_cc]; exact h2, ?_, im_rc G res, ?_, ?_⟩
      · unfold rm_isObj
        show (match rm_obj (im_ch G q.2.2.2) a.toNat with | some o => _ | none => _) = true
        rw [im_obj_c hG]
        simp
      · rw [hst, hrt]; exact k1
      · exact (im_aft_c q _ res).symm
    · rename_i mi na e1 e2
      obtain ⟨n9, rest, h1, h9, h2, res, h3, rfl⟩ := h
      have hd := hdr na
      rw [h1] at hd
      obtain ⟨o1, o2⟩ := im_ok_tail hd
      obtain ⟨k1, k2⟩ := Hcall _ _ _ _ h3 (im_ok_cons o1 (htk na))
      refine ⟨⟨hn, ?_⟩, im_aft_wf hw o2 k2⟩
      unfold rm_inv
      rw [e1, e2]
      refine ⟨n9.toNat, rest.map im_cv, by rw [hst, ← List.map_drop, h1]; rfl, ?_, by rw [im_cs_cc]; exact h2, im_rc G res, ?_, ?_⟩
      · rcases h9 with rfl | rfl
        · exact Or.inl rfl
        · exact Or.inr rfl
      · rw [hst, hrt]; exact k1
      · exact (im_aft_c q _ res).symm
    · exact h.elim
  · rename_i hkk
    rw [hkk]
    obtain ⟨f, h1, h2⟩ := h
    obtain ⟨g, g1, g2⟩ := im_op_s (ini := M.2.2.2.2.1) (oc := M.2.2.2.2.2) h1
    obtain ⟨k1, k2⟩ := g2 q r hw h2
    exact ⟨⟨g, g1, k1⟩, k2⟩
theorem im_ret_s {rt : Nat} {i : Instr} {n : Nat} {q : im_N} {res : im_Re} (hw : im_wf q) (h : im_ret rt i n q = some res) : rm_ret rt i n (im_c G q) = some (im_rc G res) ∧ ∀ v, res.1 = some v → im_ok v = true := by
  unfold im_ret at h
  have hst : (im_c G q).2.2.1 = q.2.2.1.map im_cv := rfl
  unfold rm_ret
  rw [hst]
  split at h
  · rename_i e
    rw [e]
    split at h
    · rename_i hc
      cases h
      exact ⟨by simp [hc]; rfl, fun v hv => by cases hv⟩
    · cases h
  · rename_i v e
    have hw2 := hw.2
    rw [e] at hw2
    have hv := (im_ok_tail hw2).1
    rw [e]
    split at h
    · rename_i hc
      cases h
      refine ⟨?_, fun w hw => by cases hw; exact hv⟩
      show (if n = 1 ∧ (rt = 1 ∨ (rt = 2 ∧ (Int32.ofInt v = 0 ∨ Int32.ofInt v = 1)) ∨ (rt = 5 ∧ Int32.ofInt v = 0)) then _ else _) = _
      rw [if_pos]
      · rfl
      · refine ⟨hc.1, ?_⟩
        rcases hc.2 with h1 | ⟨h1, h2⟩ | ⟨h1, h2⟩
        · exact Or.inl h1
        · refine Or.inr (Or.inl ⟨h1, ?_⟩)
          rcases h2 with rfl | rfl
          · exact Or.inl rfl
          · exact Or.inr rfl
        · subst h2
          exact Or.inr (Or.inr ⟨h1, rfl⟩)
    · cases h
  · rename_i v e
    have hw2 := hw.2
    rw [e] at hw2
    have hv := (im_ok_tail hw2).1
    rw [e]
    split at h
    · rename_i hc
      cases h
      refine ⟨?_, fun w hw => by cases hw; exact hv⟩
      show (if n = 1 ∧ rt = 3 then _ else _) = _
      rw [if_pos hc]; rfl
    · cases h
  · rename_i v e
    have hw2 := hw.2
    rw [e] at hw2
    have hv := (im_ok_tail hw2).1
    rw [e]
    split at h
    · rename_i hc
      cases h
      refine ⟨?_, fun w hw => by cases hw; exact hv⟩
      show (if n = 1 ∧ rt = 4 then _ else _) = _
      rw [if_pos hc]; rfl
    · cases h
  · cases h
theorem im_loop_s {call : im_CL} {rcall : rm_CL} {P : Nat → rm_M} {M : rm_M} {L : Nat} {ys : Nat → Int32} (Hcall : ∀ mi av s res, call mi av s res → (∀ v ∈ av, im_ok v = true) → rcall mi (av.map im_cv) (im_ch G s) (im_rc G res) ∧ ∀ v, res.1 = some v → im_ok v = true) : ∀ (f : Nat) (q : im_N) (res : im_Re), im_wf q → im_loop G call P M L ys f q res → rm_loop rcall P M L ys f (im_c G q) (im_rc G res) ∧ ∀ v, res.1 = some v → im_ok v = true := by
  intro f
  induction f with
  | zero => intro q res _ h; cases h
  | succ f ih =>
    intro q res hw h
    obtain ⟨i, n, h1, h2⟩ : ∃ i n, rm_find M.1 q.1 = some (i, n) ∧ (im_ret M.2.2.2.1 i n q = some res ∨ ∃ r, im_one G call P M L ys i n q r ∧ im_loop G call P M L ys f r res) := h
    rcases h2 with h2 | ⟨r, h2, h3⟩
    · obtain ⟨k1, k2⟩ := im_ret_s (G := G) hw h2
      exact ⟨⟨i, n, h1, Or.inl k1⟩, k2⟩
    · obtain ⟨k1, k2⟩ := im_one_s Hcall hw h2
      obtain ⟨k3, k4⟩ := ih r res k2 h3
      exact ⟨⟨i, n, h1, Or.inr ⟨im_c G r, k1, ⟨Nat.le_refl _, Nat.le_refl _⟩, k3⟩⟩, k4⟩
theorem im_call_s {P : Nat → rm_M} {L : Nat} {ys : Nat → Int32} : ∀ (d mi : Nat) (av : List im_V) (s : im_S) (res : im_Re), im_call G P L ys d mi av s res → (∀ v ∈ av, im_ok v = true) → rm_call P L ys d mi (av.map im_cv) (im_ch G s) (im_rc G res) ∧ ∀ v, res.1 = some v → im_ok v = true := by
  intro d
  induction d with
  | zero => intro mi av s res h; cases h
  | succ d ih =>
    intro mi av s res h hav
    obtain ⟨h1, f, h2⟩ : (lg_sl (av.map im_cv)).length ≤ (P mi).2.2.1 ∧ ∃ f, im_loop G (im_call G P L ys d) P (P mi) L ys f (0, im_args 0 av, [], s) res := h
    have hw : im_wf (0, im_args 0 av, [], s) := ⟨im_args_ok hav 0, fun v hv => by cases hv⟩
    obtain ⟨k1, k2⟩ := im_loop_s (G := G) (rcall := rm_call P L ys d) ih f _ res hw h2
    refine ⟨⟨h1, f, ?_⟩, k2⟩
    have e : im_c G (0, im_args 0 av, [], s) = (0, lv_args 0 (av.map im_cv), [], im_ch G s, 0, 0) := by
      unfold im_c
      rw [im_args_c]
      rfl
    rw [← e]
    exact k1
end IMC
