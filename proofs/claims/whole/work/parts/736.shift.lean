/-! a run with more cells made before it -/
def tsh (a b : Nat) (q : rm_N) : rm_N := (q.1, q.2.1, q.2.2.1, q.2.2.2.1, q.2.2.2.2.1 + a, q.2.2.2.2.2 + b)
def th_ok (g : rm_N → Option rm_N) : Prop := ∀ (q r : rm_N) (a b : Nat), g q = some r → g (tsh a b q) = some (tsh a b r)
theorem th_push {n : Nat} {v : Value} : th_ok (rm_push n v) := fun q r a b h => by
  cases h
  rfl
theorem th_load {f : Value → Bool} {n i : Nat} : th_ok (rm_loadT f n i) := fun q r a b h => by
  unfold rm_loadT at h ⊢
  have e0 : (tsh a b q).2.1 = q.2.1 := rfl
  rw [e0]
  cases e : rm_get q.2.1 i with
  | none => rw [e] at h; cases h
  | some v =>
    rw [e] at h
    dsimp only at h ⊢
    split at h
    · rename_i c
      cases h
      rw [if_pos c]
      rfl
    · cases h
theorem th_store1 {f : Value → Bool} {nL n i : Nat} : th_ok (rm_store1 f nL n i) := fun q r a b h => by
  obtain ⟨pc, lv, st, H, t1, t2⟩ := q
  unfold rm_store1 at h ⊢
  unfold tsh
  dsimp only at h ⊢
  cases st with
  | nil => cases h
  | cons v r' =>
    dsimp only at h ⊢
    split at h
    · rename_i c
      cases h
      rw [if_pos c]
    · cases h
theorem th_iinc {nL i : Nat} {k : Int} : th_ok (rm_iinc nL i k) := fun q r a b h => by
  obtain ⟨pc, lv, st, H, t1, t2⟩ := q
  unfold rm_iinc at h ⊢
  unfold tsh
  dsimp only at h ⊢
  split at h
  · split at h
    · rename_i x e c
      cases h
      first | exact if_pos c | (rw [e]; exact if_pos c)
    · cases h
  · cases h
theorem th_ii {f : Int32 → Int32 → Int32} : th_ok (rm_ii f) := fun q r a b h => by
  obtain ⟨pc, lv, st, H, t1, t2⟩ := q
  unfold rm_ii at h ⊢
  unfold tsh
  dsimp only at h ⊢
  split at h
  · cases h
    rfl
  · cases h
theorem th_dup : th_ok rm_dup := fun q r a b h => by
  obtain ⟨pc, lv, st, H, t1, t2⟩ := q
  unfold rm_dup at h ⊢
  unfold tsh
  dsimp only at h ⊢
  split at h
  · split at h
    · rename_i c
      cases h
      exact if_pos c
    · cases h
  · cases h
theorem th_pop : th_ok rm_pop := fun q r a b h => by
  obtain ⟨pc, lv, st, H, t1, t2⟩ := q
  unfold rm_pop at h ⊢
  unfold tsh
  dsimp only at h ⊢
  split at h
  · split at h
    · rename_i c
      cases h
      exact if_pos c
    · cases h
  · cases h
theorem th_pop2 : th_ok rm_pop2 := fun q r a b h => by
  obtain ⟨pc, lv, st, H, t1, t2⟩ := q
  unfold rm_pop2 at h ⊢
  unfold tsh
  dsimp only at h ⊢
  split at h
  · cases h
    rfl
  · cases h
theorem th_goto {off : Int} : th_ok (rm_goto off) := fun q r a b h => by
  obtain ⟨pc, lv, st, H, t1, t2⟩ := q
  unfold rm_goto at h ⊢
  unfold tsh
  dsimp only at h ⊢
  split at h
  · rename_i g e
    cases h
    first | rfl | (rw [e])
  · cases h
theorem th_if2 {c : ClassFile.Cond} {off : Int} : th_ok (rm_if2 c off) := fun q r a b h => by
  obtain ⟨pc, lv, st, H, t1, t2⟩ := q
  unfold rm_if2 at h ⊢
  unfold tsh
  dsimp only at h ⊢
  split at h
  · rename_i e
    cases h
    first | rfl | (rw [e])
  · cases h
theorem th_table {d lo hi : Int} {offs : List Int} : th_ok (rm_table d lo hi offs) := fun q r a b h => by
  obtain ⟨pc, lv, st, H, t1, t2⟩ := q
  unfold rm_table at h ⊢
  unfold tsh
  dsimp only at h ⊢
  split at h
  · split at h
    · rename_i c
      rw [if_pos c]
      split at h
      · cases h; rfl
      · cases h
    · rename_i c
      rw [if_neg c]
      split at h
      · split at h
        · cases h; rfl
        · cases h
      · cases h
  · cases h
theorem th_alen {L : Nat} : th_ok (rm_alen L) := fun q r a b h => by
  obtain ⟨pc, lv, st, H, t1, t2⟩ := q
  unfold rm_alen at h ⊢
  unfold tsh
  dsimp only at h ⊢
  repeat' (split at h)
  all_goals first
    | (cases h; done)
    | (cases h; rfl)
    | (rename_i c; cases h; exact if_pos c)
    | skip
theorem th_iald {L : Nat} {ys : Nat → Int32} : th_ok (rm_iald L ys) := fun q r a b h => by
  obtain ⟨pc, lv, st, H, t1, t2⟩ := q
  unfold rm_iald at h ⊢
  unfold tsh
  dsimp only at h ⊢
  repeat' (split at h)
  all_goals first
    | (cases h; done)
    | (cases h; rfl)
    | (rename_i c; cases h; exact if_pos c)
    | (rename_i c1 c2 c3; cases h; rw [if_neg c1, if_pos c2, if_pos c3]; done)
    | (rename_i c1 c2; cases h; rw [if_pos c1, if_pos c2]; done)
    | skip
theorem th_new {k : Option (Nat × Nat × Nat × Nat)} : th_ok (rm_new k) := fun q r a b h => by
  obtain ⟨pc, lv, st, H, t1, t2⟩ := q
  unfold rm_new at h ⊢
  unfold tsh
  dsimp only at h ⊢
  split at h
  · cases h
    unfold rm_up
    dsimp only
    rw [Nat.add_right_comm t1, Nat.add_right_comm t2]
  · cases h
theorem th_jji {f : Int64 → Int64 → Int32} : th_ok (rm_jji f) := fun q r a b h => by
  obtain ⟨pc, lv, st, H, t1, t2⟩ := q
  unfold rm_jji at h ⊢
  unfold tsh
  dsimp only at h ⊢
  split at h
  · cases h
    rfl
  · cases h
theorem th_if1 {c : ClassFile.Cond} {off : Int} : th_ok (rm_if1 c off) := fun q r a b h => by
  obtain ⟨pc, lv, st, H, t1, t2⟩ := q
  unfold rm_if1 at h ⊢
  unfold tsh
  dsimp only at h ⊢
  split at h
  · rename_i e
    cases h
    first | rfl | (rw [e])
  · cases h
def th_nh : Instr → Bool
  | .iconst _ => true
  | .bipush _ => true
  | .iload_n _ => true
  | .aload_n _ => true
  | .istore_n _ => true
  | .astore_n _ => true
  | .iinc _ _ => true
  | .iadd => true
  | .isub => true
  | .iand => true
  | .dup => true
  | .pop => true
  | .pop2 => true
  | .goto _ => true
  | .if_icmp _ _ => true
  | .tableswitch _ _ _ _ => true
  | .arraylength => true
  | .iaload => true
  | .new _ => true
  | .ireturn => true
  | .invokevirtual _ => true
  | .invokespecial _ => true
  | .lcmp => true
  | .ifCond _ _ => true
  | _ => false
theorem th_is {n k : Nat} {f g : rm_N → Option rm_N} (h : rm_is n k f = some g) (hf : th_ok f) : th_ok g := by
  unfold rm_is at h
  split at h
  · cases h; exact hf
  · cases h
theorem th_nh_s {nL : Nat} {ini : Bool} {oc : Nat} {ks : List rm_K5} {L : Nat} {ys : Nat → Int32} {i : Instr} {n : Nat} {g : rm_N → Option rm_N} (h : th_nh i = true) (hk : rm_ck i = none) (ho : rm_op nL ini oc ks L ys i n = some g) : th_ok g := by
  unfold th_nh at h
  split at h
  · exact th_is ho th_push
  · exact th_is ho th_push
  · exact th_is ho th_load
  · exact th_is ho th_load
  · exact th_is ho th_store1
  · exact th_is ho th_store1
  · exact th_is ho th_iinc
  · exact th_is ho th_ii
  · exact th_is ho th_ii
  · exact th_is ho th_ii
  · exact th_is ho th_dup
  · exact th_is ho th_pop
  · exact th_is ho th_pop2
  · exact th_is ho th_goto
  · exact th_is ho th_if2
  · cases ho; exact th_table
  · exact th_is ho th_alen
  · exact th_is ho th_iald
  · exact th_is ho th_new
  · cases ho
  · cases hk
  · cases hk
  · exact th_is ho th_jji
  · exact th_is ho th_if1
  · cases h
theorem th_one {cR : rm_CL} {P : Nat → rm_M} {M : rm_M} {L : Nat} {ys : Nat → Int32} {i : Instr} {n : Nat} {q r : rm_N} (a b : Nat) (hi : th_nh i = true) (h : rm_one cR P M L ys i n q r) : rm_one cR P M L ys i n (tsh a b q) (tsh a b r) := by
  have aft : ∀ rest res, rm_aft (tsh a b q) rest res = tsh a b (rm_aft q rest res) := fun rest res => by
    unfold rm_aft tsh
    dsimp only
    rw [Nat.add_right_comm q.2.2.2.2.1, Nat.add_right_comm q.2.2.2.2.2]
  unfold rm_one at h ⊢
  cases hk : rm_ck i with
  | none =>
    rw [hk] at h
    obtain ⟨g, g1, g2⟩ := h
    exact ⟨g, g1, th_nh_s hi hk g1 q r a b g2⟩
  | some kk =>
    rw [hk] at h
    refine ⟨h.1, ?_⟩
    have h := h.2
    unfold rm_inv at h ⊢
    split at h
    · obtain ⟨h1, h2, res, h3, rfl⟩ := h
      exact ⟨h1, h2, res, h3, (aft _ _).symm⟩
    · rename_i e1 e2
      exfalso
      have e3 : i = .invokestatic kk.2 := by
        unfold rm_ck at hk
        split at hk
        · cases hk; rfl
        · cases hk; cases e1
        · cases hk; cases e1
        · cases hk
      rw [e3] at hi
      cases hi
    · obtain ⟨x, rest, h1, h2, h3, res, h4, rfl⟩ := h
      exact ⟨x, rest, h1, h2, h3, res, h4, (aft _ _).symm⟩
    · obtain ⟨x, rest, h1, h2, h3, res, h4, rfl⟩ := h
      exact ⟨x, rest, h1, h2, h3, res, h4, (aft _ _).symm⟩
    · obtain ⟨x, rest, h1, h2, h3, res, h4, rfl⟩ := h
      exact ⟨x, rest, h1, h2, h3, res, h4, (aft _ _).symm⟩
    · unfold rm_invO at h ⊢
      unfold tsh
      dsimp only at h ⊢
      split at h
      · split at h
        · rename_i c
          cases h
          exact if_pos c
        · cases h
      · cases h
    · cases h
theorem th_ret {rt : Nat} {i : Instr} {n : Nat} {q : rm_N} {res : rm_Re} (a b : Nat) (h : rm_ret rt i n q = some res) : rm_ret rt i n (tsh a b q) = some (res.1, res.2.1, res.2.2.1 + a, res.2.2.2 + b) := by
  obtain ⟨pc, lv, st, H, t1, t2⟩ := q
  unfold rm_ret at h ⊢
  unfold tsh
  dsimp only at h ⊢
  repeat' (split at h)
  all_goals first
    | (cases h; done)
    | (rename_i c; cases h; exact if_pos c)
    | skip
theorem th_loop {cR : rm_CL} {P : Nat → rm_M} {M : rm_M} {L : Nat} {ys : Nat → Int32} (a b : Nat) (hM : ∀ p ∈ M.1, th_nh p.2.1 = true) : ∀ (f : Nat) (q : rm_N) (res : rm_Re), rm_loop cR P M L ys f q res → rm_loop cR P M L ys f (tsh a b q) (res.1, res.2.1, res.2.2.1 + a, res.2.2.2 + b) := by
  intro f
  induction f with
  | zero => intro q res h; cases h
  | succ f ih =>
    intro q res h
    obtain ⟨i, n, h1, h2⟩ : ∃ i n, rm_find M.1 q.1 = some (i, n) ∧ (rm_ret M.2.2.2.1 i n q = some res ∨ ∃ r, rm_one cR P M L ys i n q r ∧ rm_ge q r ∧ rm_loop cR P M L ys f r res) := h
    have hi := hM _ (rm_find_mem h1)
    refine ⟨i, n, h1, ?_⟩
    rcases h2 with h2 | ⟨r, h3, h4, h5⟩
    · exact Or.inl (th_ret a b h2)
    · exact Or.inr ⟨tsh a b r, th_one a b hi h3, ⟨Nat.add_le_add_right h4.1 a, Nat.add_le_add_right h4.2 b⟩, ih r res h5⟩
set_option maxRecDepth 100000 in
theorem law_nh : ∀ p ∈ rm_p_L_law.1, th_nh p.2.1 = true := by decide +kernel
