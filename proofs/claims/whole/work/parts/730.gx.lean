/-! the same with the heap turned round: the newest cell first -/
abbrev gx_N : Type := Nat × rm_L × List Value × List va_E × Nat × rm_T
abbrev gx_R : Type := Option Value × List va_E × Nat × rm_T
abbrev gx_C : Type := Nat → List Value → List va_E → Nat → Option gx_R
def gx_q (q : gx_N) (H : rm_H) : rm_N := (q.1, q.2.1, q.2.2.1, H, q.2.2.2.2.2)
def gx_at (rl : List va_E) (n a : Nat) : Option va_E := if a < n then rl[n - 1 - a]? else none
def gx_obj (rl : List va_E) (n a : Nat) : Option (Nat × List Value) := match gx_at rl n a with
  | some (.inr o) => some o
  | _ => none
def gx_arr (rl : List va_E) (n a : Nat) : Option (Nat × vp_A) := match gx_at rl n a with
  | some (.inl o) => some o
  | _ => none
def gx_isObj (rl : List va_E) (n oc a : Nat) : Bool := match gx_obj rl n a with
  | some o => decide (o.1 = oc)
  | none => false
def gx_getf (k : Option (Nat × Nat × Nat × Nat)) (q : gx_N) : Option (gx_N × Nat) := match k, q.2.2.1 with
  | some (0, ci, f, _), .ref a :: r => (match gx_obj q.2.2.2.1 q.2.2.2.2.1 a with
    | some o => if o.1 = ci then (match o.2[f]? with
      | some v => some ((q.1 + 3, q.2.1, v :: r, q.2.2.2), 0)
      | none => none) else none
    | none => none)
  | _, _ => none
def gx_putf (ini : Bool) (oc : Nat) (k : Option (Nat × Nat × Nat × Nat)) (q : gx_N) : Option (gx_N × Nat) := match k, q.2.2.1 with
  | some (0, ci, f, 0), v :: .ref a :: r => (match gx_obj q.2.2.2.1 q.2.2.2.2.1 a with
    | some o => if decide (o.1 = ci) && rm_fit (rm_ft ci f) v && decide (f < o.2.length) && (!(rm_fin ci f) || (ini && decide (oc = ci))) then some ((q.1 + 3, q.2.1, r, q.2.2.2.1.set (q.2.2.2.2.1 - 1 - a) (.inr (ci, o.2.set f v)), q.2.2.2.2), q.2.2.2.2.1 - a) else none
    | none => none)
  | some (0, ci, f, _ + 1), v :: .ref a :: r => (match gx_obj q.2.2.2.1 q.2.2.2.2.1 a with
    | some o => if decide (o.1 = ci) && rm_fit (rm_ft ci f) v && decide (f < o.2.length) && !(rm_fin ci f) then some ((q.1 + 3, q.2.1, r, q.2.2.2.1.set (q.2.2.2.2.1 - 1 - a) (.inr (ci, o.2.set f v)), q.2.2.2.2), q.2.2.2.2.1 - a) else none
    | none => none)
  | _, _ => none
def gx_new (k : Option (Nat × Nat × Nat × Nat)) (q : gx_N) : Option (gx_N × Nat) := match k with
  | some (1, ci, N, _) => some ((q.1 + 3, q.2.1, .ref q.2.2.2.2.1 :: q.2.2.1, .inr (ci, (List.range N).map (fun j => defaultValue (rm_ft ci j))) :: q.2.2.2.1, q.2.2.2.2.1 + 1, rm_up q.2.2.2.2.2 1 N), 0)
  | _ => none
def gx_newq (k : Option (Nat × Nat × Nat × Nat)) (q : gx_N) : Option (gx_N × Nat) := match k, q.2.2.1 with
  | some (1, _, _, t), .int n :: r => if decide (n < 0) || decide (1000000 < n.toNatClampNeg) || decide (t < 5) then none else some ((q.1 + 3, q.2.1, .ref q.2.2.2.2.1 :: r, .inl (t, n.toNatClampNeg, .inr (.inr (.inr (.inr (fun _ => none))))) :: q.2.2.2.1, q.2.2.2.2.1 + 1, rm_up q.2.2.2.2.2 1 n.toNatClampNeg), 0)
  | _, _ => none
def gx_newa (t : Nat) (q : gx_N) : Option (gx_N × Nat) := match q.2.2.1 with
  | .int n :: r => if decide (n < 0) || decide (1000000 < n.toNatClampNeg) then none else some ((q.1 + 2, q.2.1, .ref q.2.2.2.2.1 :: r, .inl (t, n.toNatClampNeg, rm_d0 t) :: q.2.2.2.1, q.2.2.2.2.1 + 1, rm_up q.2.2.2.2.2 1 n.toNatClampNeg), 0)
  | _ => none
def gx_iast (q : gx_N) : Option (gx_N × Nat) := match q.2.2.1 with
  | .int x :: .int i :: .ref a :: r => (match gx_arr q.2.2.2.1 q.2.2.2.2.1 a with
    | some (t', n, .inl f) => if decide (t' = 0) && rm_in i n then some ((q.1 + 1, q.2.1, r, q.2.2.2.1.set (q.2.2.2.2.1 - 1 - a) (.inl (0, n, .inl (upd f i.toNatClampNeg (vp_nar .int x)))), q.2.2.2.2), q.2.2.2.2.1 - a) else none
    | _ => none)
  | _ => none
def gx_aast (q : gx_N) : Option (gx_N × Nat) := match q.2.2.1 with
  | .ref v :: .int i :: .ref a :: r => (match gx_arr q.2.2.2.1 q.2.2.2.2.1 a, gx_obj q.2.2.2.1 q.2.2.2.2.1 v with
    | some (t, n, .inr (.inr (.inr (.inr f)))), some o => if rm_in i n && decide (rm_tc t = some o.1) then some ((q.1 + 1, q.2.1, r, q.2.2.2.1.set (q.2.2.2.2.1 - 1 - a) (.inl (t, n, .inr (.inr (.inr (.inr (va_up f i.toNatClampNeg (some v))))))), q.2.2.2.2), q.2.2.2.2.1 - a) else none
    | _, _ => none)
  | _ => none
def gx_nh : Instr → Bool
  | .iconst _ => true
  | .bipush _ => true
  | .sipush _ => true
  | .lconst _ => true
  | .iload_n _ => true
  | .lload_n _ => true
  | .aload_n _ => true
  | .istore_n _ => true
  | .astore_n _ => true
  | .lstore_n _ => true
  | .iinc _ _ => true
  | .iadd => true
  | .lneg => true
  | .lcmp => true
  | .lushr => true
  | .l2i => true
  | .dup => true
  | .goto _ => true
  | .ifCond _ _ => true
  | .if_icmp _ _ => true
  | .ldc _ => true
  | _ => false
def gx_aft (q : gx_N) (rest : List Value) (res : gx_R) : gx_N := (q.1 + 3, q.2.1, res.1.toList ++ rest, res.2.1, res.2.2.1, q.2.2.2.2.2.1 + res.2.2.2.1, q.2.2.2.2.2.2 + res.2.2.2.2)
def gx_invS (call : gx_C) (mi na : Nat) (q : gx_N) : Option (gx_N × Nat) := if na ≤ q.2.2.1.length ∧ rm_cs (q.2.2.1.drop na) ≤ 8 then (match call mi (q.2.2.1.take na).reverse q.2.2.2.1 q.2.2.2.2.1 with
  | some res => some (gx_aft q (q.2.2.1.drop na) res, 0)
  | none => none) else none
def gx_invV (call : gx_C) (oc mi na : Nat) (q : gx_N) : Option (gx_N × Nat) := match q.2.2.1.drop na with
  | .ref a :: rest => if rm_cs rest ≤ 8 ∧ gx_isObj q.2.2.2.1 q.2.2.2.2.1 oc a = true then (match call mi (.ref a :: (q.2.2.1.take na).reverse) q.2.2.2.1 q.2.2.2.2.1 with
    | some res => some (gx_aft q rest res, 0)
    | none => none) else none
  | _ => none
def gx_invO (q : gx_N) : Option (gx_N × Nat) := match q.2.2.1 with
  | .ref _ :: rest => if rm_cs rest ≤ 8 then some ((q.1 + 3, q.2.1, rest, q.2.2.2), 0) else none
  | _ => none
def gx_inv (call : gx_C) (P : Nat → rm_M) (kd : Nat) (k : Option (Nat × Nat × Nat × Nat)) (q : gx_N) : Option (gx_N × Nat) := match kd, k with
  | 0, some (3, mi, na, 0) => gx_invS call mi na q
  | 1, some (3, mi, na, 1) => gx_invV call (P mi).2.2.2.2.2 mi na q
  | 2, some (3, mi, na, 2) => gx_invV call (P mi).2.2.2.2.2 mi na q
  | 2, some (3, _, _, 3) => gx_invO q
  | _, _ => none
def gx_heap (M : rm_M) (i : Instr) (n : Nat) (q : gx_N) : Option (gx_N × Nat) := match i, n with
  | .getfield k, 3 => gx_getf (rm_lk M.2.1 k) q
  | .putfield k, 3 => gx_putf M.2.2.2.2.1 M.2.2.2.2.2 (rm_lk M.2.1 k) q
  | .new k, 3 => gx_new (rm_lk M.2.1 k) q
  | .anewarray k, 3 => gx_newq (rm_lk M.2.1 k) q
  | .newarray .int, 2 => gx_newa 0 q
  | .newarray .long, 2 => gx_newa 1 q
  | .newarray .char, 2 => gx_newa 2 q
  | .newarray .byte, 2 => gx_newa 3 q
  | .newarray .boolean, 2 => gx_newa 4 q
  | .iastore, 1 => gx_iast q
  | .aastore, 1 => gx_aast q
  | _, _ => none
def gx_one (call : gx_C) (P : Nat → rm_M) (M : rm_M) (L : Nat) (ys : Nat → Int32) (i : Instr) (n : Nat) (q : gx_N) : Option (gx_N × Nat) := match rm_ck i with
  | some kk => if n = 3 then gx_inv call P kk.1 (rm_lk M.2.1 kk.2) q else none
  | none => if gx_nh i then (match rm_op M.2.2.1 M.2.2.2.2.1 M.2.2.2.2.2 M.2.1 L ys i n with
    | some g => (match g (gx_q q []) with
      | some r => some ((r.1, r.2.1, r.2.2.1, q.2.2.2.1, q.2.2.2.2.1, r.2.2.2.2), 0)
      | none => none)
    | none => none) else gx_heap M i n q
def gx_ge (q r : gx_N) : Bool := Nat.ble q.2.2.2.2.2.1 r.2.2.2.2.2.1 && Nat.ble q.2.2.2.2.2.2 r.2.2.2.2.2.2
noncomputable def gx_flk {α β : Type} (k : Nat) : List α → (List α → β) → β := Nat.rec (motive := fun _ => List α → (List α → β) → β) (fun l c => c l) (fun _ ih l c => List.casesOn (motive := fun _ => β) l (c []) (fun x xs => ih xs (fun ys => c (x :: ys)))) k
theorem gx_flk_eq {α β : Type} : ∀ (k : Nat) (l : List α) (c : List α → β), gx_flk k l c = c l := by
  intro k
  induction k with
  | zero => intro l c; rfl
  | succ k ih =>
    intro l c
    cases l with
    | nil => rfl
    | cons x xs => exact ih xs (fun ys => c (x :: ys))
noncomputable def gx_force {β : Type} (dep : Nat) (r : gx_N) (k : gx_N → β) : β := match r with
  | (pc, lv, st, h, n, uc, us) => fx_fn pc (fun pc => fx_fl lv (fun lv => fx_fl st (fun st => fx_fn n (fun n => fx_fn uc (fun uc => fx_fn us (fun us => gx_flk dep h (fun h => k (pc, lv, st, h, n, uc, us))))))))
theorem gx_force_eq {β : Type} (dep : Nat) (r : gx_N) (k : gx_N → β) : gx_force dep r k = k r := by
  obtain ⟨pc, lv, st, h, n, uc, us⟩ := r
  unfold gx_force
  simp only [fx_fn_eq, fx_fl_eq, gx_flk_eq]
def gx_ret (M : rm_M) (i : Instr) (n : Nat) (q : gx_N) : Option gx_R := match rm_ret M.2.2.2.1 i n (gx_q q []) with
  | some res => some (res.1, q.2.2.2.1, q.2.2.2.2.1, q.2.2.2.2.2)
  | none => none
noncomputable def gx_body (call : gx_C) (P : Nat → rm_M) (M : rm_M) (L : Nat) (ys : Nat → Int32) (q : gx_N) (ih : gx_N → Option gx_R) : Option gx_R := match rm_find M.1 q.1 with
    | none => none
    | some ii => match gx_ret M ii.1 ii.2 q with
      | some res => some res
      | none => match gx_one call P M L ys ii.1 ii.2 q with
        | some r => cond (gx_ge q r.1) (gx_force r.2 r.1 ih) none
        | none => none
noncomputable def gx_loop (call : gx_C) (P : Nat → rm_M) (M : rm_M) (L : Nat) (ys : Nat → Int32) (f : Nat) : gx_N → Option gx_R := Nat.rec (motive := fun _ => gx_N → Option gx_R) (fun _ => none) (fun _ ih q => gx_body call P M L ys q ih) f
noncomputable def gx_call (P : Nat → rm_M) (L : Nat) (ys : Nat → Int32) (F d : Nat) : gx_C := Nat.rec (motive := fun _ => gx_C) (fun _ _ _ _ => none) (fun _ ih mi av h n => if (lg_sl av).length ≤ (P mi).2.2.1 then gx_loop ih P (P mi) L ys F (0, lv_args 0 av, [], h, n, 0, 0) else none) d
noncomputable def gx_tbody (call : gx_C) (P : Nat → rm_M) (M : rm_M) (L : Nat) (ys : Nat → Int32) (stop : Nat) (q : gx_N) (ih : gx_N → Option gx_N) : Option gx_N := cond (Nat.beq q.1 stop) (some q) (match rm_find M.1 q.1 with
    | none => none
    | some ii => match gx_one call P M L ys ii.1 ii.2 q with
        | some r => cond (gx_ge q r.1) (gx_force r.2 r.1 ih) none
        | none => none)
noncomputable def gx_till (call : gx_C) (P : Nat → rm_M) (M : rm_M) (L : Nat) (ys : Nat → Int32) (stop f : Nat) : gx_N → Option gx_N := Nat.rec (motive := fun _ => gx_N → Option gx_N) (fun _ => none) (fun _ ih q => gx_tbody call P M L ys stop q ih) f
