/-! THE MACHINE AS A FUNCTION WITH FUEL, for the constructors -/
abbrev fx_C : Type := Nat → List Value → rm_H → Option rm_Re
def fx_invS (call : fx_C) (mi na : Nat) (q : rm_N) : Option rm_N := if na ≤ q.2.2.1.length ∧ rm_cs (q.2.2.1.drop na) ≤ 8 then (match call mi (q.2.2.1.take na).reverse q.2.2.2.1 with
  | some res => some (rm_aft q (q.2.2.1.drop na) res)
  | none => none) else none
def fx_invV (call : fx_C) (oc mi na : Nat) (q : rm_N) : Option rm_N := match q.2.2.1.drop na with
  | .ref a :: rest => if rm_cs rest ≤ 8 ∧ rm_isObj q.2.2.2.1 oc a = true then (match call mi (.ref a :: (q.2.2.1.take na).reverse) q.2.2.2.1 with
    | some res => some (rm_aft q rest res)
    | none => none) else none
  | _ => none
def fx_inv (call : fx_C) (P : Nat → rm_M) (kd : Nat) (k : Option (Nat × Nat × Nat × Nat)) (q : rm_N) : Option rm_N := match kd, k with
  | 0, some (3, mi, na, 0) => fx_invS call mi na q
  | 0, some (3, _, _, 5) => rm_acopy q
  | 1, some (3, mi, na, 1) => fx_invV call (P mi).2.2.2.2.2 mi na q
  | 2, some (3, mi, na, 2) => fx_invV call (P mi).2.2.2.2.2 mi na q
  | 2, some (3, _, _, 3) => rm_invO q
  | _, _ => none
def fx_one (call : fx_C) (P : Nat → rm_M) (M : rm_M) (L : Nat) (ys : Nat → Int32) (i : Instr) (n : Nat) (q : rm_N) : Option rm_N := match rm_ck i with
  | some kk => if n = 3 then fx_inv call P kk.1 (rm_lk M.2.1 kk.2) q else none
  | none => match rm_op M.2.2.1 M.2.2.2.2.1 M.2.2.2.2.2 M.2.1 L ys i n with
    | some g => g q
    | none => none
def fx_ge (q r : rm_N) : Bool := Nat.ble q.2.2.2.2.1 r.2.2.2.2.1 && Nat.ble q.2.2.2.2.2 r.2.2.2.2.2
noncomputable def fx_fl {α β : Type} (l : List α) : (List α → β) → β := List.rec (motive := fun _ => (List α → β) → β) (fun k => k []) (fun x _ ih k => ih (fun ys => k (x :: ys))) l
def fx_fn {β : Type} (n : Nat) (k : Nat → β) : β := match n with
  | 0 => k 0
  | m + 1 => k (m + 1)
theorem fx_fl_eq {α β : Type} (l : List α) : ∀ k : List α → β, fx_fl l k = k l := by
  induction l with
  | nil => intro k; rfl
  | cons x l ih => intro k; exact ih (fun ys => k (x :: ys))
theorem fx_fn_eq {β : Type} (n : Nat) (k : Nat → β) : fx_fn n k = k n := by cases n <;> rfl
def fx_mod : Instr → Bool
  | .putfield _ | .new _ | .newarray _ | .anewarray _ | .iastore | .lastore | .castore | .aastore | .invokespecial _ => true
  | _ => false
noncomputable def fx_force {β : Type} (b : Bool) (r : rm_N) (k : rm_N → β) : β := match r with
  | (pc, lv, st, h, uc, us) => fx_fn pc (fun pc => fx_fl lv (fun lv => fx_fl st (fun st => fx_fn uc (fun uc => fx_fn us (fun us => match b with
    | true => fx_fl h (fun h => k (pc, lv, st, h, uc, us))
    | false => k (pc, lv, st, h, uc, us))))))
theorem fx_force_eq {β : Type} (b : Bool) (r : rm_N) (k : rm_N → β) : fx_force b r k = k r := by
  obtain ⟨pc, lv, st, h, uc, us⟩ := r
  unfold fx_force
  simp only [fx_fn_eq, fx_fl_eq]
  cases b <;> rfl
noncomputable def fx_body (call : fx_C) (P : Nat → rm_M) (M : rm_M) (L : Nat) (ys : Nat → Int32) (q : rm_N) (ih : rm_N → Option rm_Re) : Option rm_Re := match rm_find M.1 q.1 with
    | none => none
    | some ii => match rm_ret M.2.2.2.1 ii.1 ii.2 q with
      | some res => some res
      | none => match fx_one call P M L ys ii.1 ii.2 q with
        | some r => cond (fx_ge q r) (fx_force (fx_mod ii.1) r ih) none
        | none => none
noncomputable def fx_loop (call : fx_C) (P : Nat → rm_M) (M : rm_M) (L : Nat) (ys : Nat → Int32) (f : Nat) : rm_N → Option rm_Re := Nat.rec (motive := fun _ => rm_N → Option rm_Re) (fun _ => none) (fun _ ih q => fx_body call P M L ys q ih) f
noncomputable def fx_call (P : Nat → rm_M) (L : Nat) (ys : Nat → Int32) (F d : Nat) : fx_C := Nat.rec (motive := fun _ => fx_C) (fun _ _ _ => none) (fun _ ih mi av h => if (lg_sl av).length ≤ (P mi).2.2.1 then fx_loop ih P (P mi) L ys F (0, lv_args 0 av, [], h, 0, 0) else none) d
theorem fx_one_s {call : fx_C} {cR : rm_CL} {P : Nat → rm_M} {M : rm_M} {L : Nat} {ys : Nat → Int32} (hc : ∀ mi av h res, call mi av h = some res → cR mi av h res) {i : Instr} {n : Nat} {q r : rm_N} (h : fx_one call P M L ys i n q = some r) : rm_one cR P M L ys i n q r := by
  have hV : ∀ oc mi na, fx_invV call oc mi na q = some r → rm_invV cR oc mi na q r := fun oc mi na z => by
    unfold fx_invV at z
    split at z
    · rename_i a rest hd
      split at z
      · rename_i hh
        split at z
        · rename_i res hr
          cases z
          exact ⟨a, rest, hd, hh.1, hh.2, res, hc _ _ _ _ hr, rfl⟩
        · cases z
      · cases z
    · cases z
  unfold fx_one at h
  unfold rm_one
  split at h
  · rename_i kk hk
    split at h
    · rename_i n3
      rw [hk]
      refine ⟨n3, ?_⟩
      unfold fx_inv at h
      unfold rm_inv
      split at h
      · rename_i mi na e1 e2
        rw [e1, e2]
        unfold fx_invS at h
        split at h
        · rename_i hh
          split at h
          · rename_i res hr
            cases h
            exact ⟨hh.1, hh.2, res, hc _ _ _ _ hr, rfl⟩
          · cases h
        · cases h
      · rename_i e1 e2
        rw [e1, e2]
        exact h
      · rename_i mi na e1 e2
        rw [e1, e2]
        exact hV _ _ _ h
      · rename_i mi na e1 e2
        rw [e1, e2]
        exact hV _ _ _ h
      · rename_i e1 e2
        rw [e1, e2]
        exact h
      · cases h
    · cases h
  · rename_i hk
    rw [hk]
    split at h
    · rename_i g hg
      exact ⟨g, hg, h⟩
    · cases h
theorem fx_ge_s {q r : rm_N} (h : fx_ge q r = true) : rm_ge q r := by
  unfold fx_ge at h
  simp only [Bool.and_eq_true] at h
  exact ⟨Nat.le_of_ble_eq_true h.1, Nat.le_of_ble_eq_true h.2⟩
theorem fx_loop_s {call : fx_C} {cR : rm_CL} {P : Nat → rm_M} {M : rm_M} {L : Nat} {ys : Nat → Int32} (hc : ∀ mi av h res, call mi av h = some res → cR mi av h res) : ∀ (f : Nat) (q : rm_N) (res : rm_Re), fx_loop call P M L ys f q = some res → rm_loop cR P M L ys f q res := by
  intro f
  induction f with
  | zero => intro q res h; cases h
  | succ f ih =>
    intro q res h
    have h : fx_body call P M L ys q (fx_loop call P M L ys f) = some res := h
    unfold fx_body at h
    show ∃ i n, rm_find M.1 q.1 = some (i, n) ∧ (rm_ret M.2.2.2.1 i n q = some res ∨ ∃ r, rm_one cR P M L ys i n q r ∧ rm_ge q r ∧ rm_loop cR P M L ys f r res)
    split at h
    · cases h
    · rename_i ii hii
      refine ⟨ii.1, ii.2, hii, ?_⟩
      split at h
      · rename_i res' hr
        cases h
        exact Or.inl hr
      · split at h
        · rename_i r hr
          cases hge : fx_ge q r with
          | true =>
            rw [hge] at h
            have h : fx_force (fx_mod ii.1) r (fx_loop call P M L ys f) = some res := h
            rw [fx_force_eq] at h
            exact Or.inr ⟨r, fx_one_s hc hr, fx_ge_s hge, ih r res h⟩
          | false => rw [hge] at h; cases h
        · cases h
theorem fx_call_s {P : Nat → rm_M} {L : Nat} {ys : Nat → Int32} {F : Nat} : ∀ (d mi : Nat) (av : List Value) (h : rm_H) (res : rm_Re), fx_call P L ys F d mi av h = some res → rm_call P L ys d mi av h res := by
  intro d
  induction d with
  | zero => intro mi av h res z; cases z
  | succ d ih =>
    intro mi av h res z
    have z : (if (lg_sl av).length ≤ (P mi).2.2.1 then fx_loop (fx_call P L ys F d) P (P mi) L ys F (0, lv_args 0 av, [], h, 0, 0) else none) = some res := z
    show (lg_sl av).length ≤ (P mi).2.2.1 ∧ ∃ f, rm_loop (rm_call P L ys d) P (P mi) L ys f (0, lv_args 0 av, [], h, 0, 0) res
    split at z
    · rename_i hl
      exact ⟨hl, F, fx_loop_s ih F _ _ z⟩
    · cases z
noncomputable def fx_tbody (call : fx_C) (P : Nat → rm_M) (M : rm_M) (L : Nat) (ys : Nat → Int32) (stop : Nat) (q : rm_N) (ih : rm_N → Option rm_N) : Option rm_N := cond (Nat.beq q.1 stop) (some q) (match rm_find M.1 q.1 with
    | none => none
    | some ii => match fx_one call P M L ys ii.1 ii.2 q with
        | some r => cond (fx_ge q r) (fx_force (fx_mod ii.1) r ih) none
        | none => none)
noncomputable def fx_till (call : fx_C) (P : Nat → rm_M) (M : rm_M) (L : Nat) (ys : Nat → Int32) (stop f : Nat) : rm_N → Option rm_N := Nat.rec (motive := fun _ => rm_N → Option rm_N) (fun _ => none) (fun _ ih q => fx_tbody call P M L ys stop q ih) f
