/-! a run up to a place -/
theorem gx_one_s {call : gx_C} {cR : rm_CL} {P : Nat → rm_M} {M : rm_M} {L : Nat} {ys : Nat → Int32} (hc : ∀ mi av rl n res, n = rl.length → call mi av rl n = some res → res.2.2.1 = res.2.1.length ∧ cR mi av rl.reverse (res.1, res.2.1.reverse, res.2.2.2)) {i : Instr} {n dep : Nat} {q r : gx_N} (hq : gx_in q) (h : gx_one call P M L ys i n q = some (r, dep)) : gx_in r ∧ rm_one cR P M L ys i n (gx_rv q) (gx_rv r) := by
  have hV : ∀ oc mi na, gx_invV call oc mi na q = some (r, dep) → gx_in r ∧ rm_invV cR oc mi na (gx_rv q) (gx_rv r) := fun oc mi na z => by
    unfold gx_invV at z
    split at z
    · rename_i a rest hd
      split at z
      · rename_i hh
        split at z
        · rename_i res hr
          cases z
          obtain ⟨u1, u2⟩ := hc _ _ _ _ _ hq hr
          rw [gx_isObj_s hq] at hh
          exact ⟨u1, a, rest, hd, hh.1, hh.2, _, u2, rfl⟩
        · cases z
      · cases z
    · cases z
  unfold gx_one at h
  unfold rm_one
  split at h
  · rename_i kk hk
    split at h
    · rename_i n3
      rw [hk]
      refine (fun z : gx_in r ∧ rm_inv cR P kk.1 (rm_lk M.2.1 kk.2) (gx_rv q) (gx_rv r) => ⟨z.1, n3, z.2⟩) ?_
      unfold gx_inv at h
      unfold rm_inv
      split at h
      · rename_i mi na e1 e2
        rw [e1, e2]
        unfold gx_invS at h
        split at h
        · rename_i hh
          split at h
          · rename_i res hr
            cases h
            obtain ⟨u1, u2⟩ := hc _ _ _ _ _ hq hr
            exact ⟨u1, hh.1, hh.2, _, u2, rfl⟩
          · cases h
        · cases h
      · rename_i mi na e1 e2
        rw [e1, e2]
        exact hV _ _ _ h
      · rename_i mi na e1 e2
        rw [e1, e2]
        exact hV _ _ _ h
      · rename_i e1 e2
        rw [e1, e2]
        unfold gx_invO at h
        split at h
        · rename_i a rest e3
          split at h
          · rename_i c
            cases h
            refine ⟨hq, ?_⟩
            show rm_invO (gx_rv q) = _
            unfold rm_invO
            have e4 : (gx_rv q).2.2.1 = .ref a :: rest := e3
            rw [e4]
            dsimp only
            rw [if_pos c]
            rfl
          · cases h
        · cases h
      · cases h
    · cases h
  · rename_i hk
    rw [hk]
    split at h
    · rename_i nh
      split at h
      · rename_i g hg
        split at h
        · rename_i r' hr
          cases h
          exact ⟨hq, g, hg, gx_nh_s nh hg _ _ _ hr⟩
        · cases h
      · cases h
    · obtain ⟨z1, z2⟩ := gx_heap_s (L := L) (ys := ys) hq h
      exact ⟨z1, z2⟩
theorem gx_ge_s {q r : gx_N} (h : gx_ge q r = true) : rm_ge (gx_rv q) (gx_rv r) := by
  unfold gx_ge at h
  simp only [Bool.and_eq_true] at h
  exact ⟨Nat.le_of_ble_eq_true h.1, Nat.le_of_ble_eq_true h.2⟩
theorem gx_ret_s {M : rm_M} {i : Instr} {n : Nat} {q : gx_N} {res : gx_R} (h : gx_ret M i n q = some res) : res.2.1 = q.2.2.2.1 ∧ res.2.2.1 = q.2.2.2.2.1 ∧ rm_ret M.2.2.2.1 i n (gx_rv q) = some (res.1, res.2.1.reverse, res.2.2.2) := by
  unfold gx_ret at h
  split at h
  · rename_i r hr
    cases h
    refine ⟨rfl, rfl, ?_⟩
    unfold rm_ret at hr ⊢
    unfold gx_rv
    dsimp only [gx_q] at hr ⊢
    split at hr
    · split at hr
      · rename_i c
        cases hr
        exact if_pos c
      · cases hr
    · split at hr
      · rename_i c
        cases hr
        exact if_pos c
      · cases hr
    · split at hr
      · rename_i c
        cases hr
        exact if_pos c
      · cases hr
    · split at hr
      · rename_i c
        cases hr
        exact if_pos c
      · cases hr
    · cases hr
  · cases h
theorem gx_loop_s {call : gx_C} {cR : rm_CL} {P : Nat → rm_M} {M : rm_M} {L : Nat} {ys : Nat → Int32} (hc : ∀ mi av rl n res, n = rl.length → call mi av rl n = some res → res.2.2.1 = res.2.1.length ∧ cR mi av rl.reverse (res.1, res.2.1.reverse, res.2.2.2)) : ∀ (f : Nat) (q : gx_N) (res : gx_R), gx_in q → gx_loop call P M L ys f q = some res → res.2.2.1 = res.2.1.length ∧ rm_loop cR P M L ys f (gx_rv q) (res.1, res.2.1.reverse, res.2.2.2) := by
  intro f
  induction f with
  | zero => intro q res _ h; cases h
  | succ f ih =>
    intro q res hq h
    have h : gx_body call P M L ys q (gx_loop call P M L ys f) = some res := h
    unfold gx_body at h
    refine (fun z : res.2.2.1 = res.2.1.length ∧ ∃ i n, rm_find M.1 (gx_rv q).1 = some (i, n) ∧ (rm_ret M.2.2.2.1 i n (gx_rv q) = some (res.1, res.2.1.reverse, res.2.2.2) ∨ ∃ r, rm_one cR P M L ys i n (gx_rv q) r ∧ rm_ge (gx_rv q) r ∧ rm_loop cR P M L ys f r (res.1, res.2.1.reverse, res.2.2.2)) => ⟨z.1, z.2⟩) ?_
    split at h
    · cases h
    · rename_i ii hii
      split at h
      · rename_i res' hr
        cases h
        obtain ⟨r1, r2, r3⟩ := gx_ret_s hr
        exact ⟨by rw [r1, r2]; exact hq, ii.1, ii.2, hii, Or.inl r3⟩
      · split at h
        · rename_i r hr
          cases hge : gx_ge q r.1 with
          | true =>
            rw [hge] at h
            have h : gx_force r.2 r.1 (gx_loop call P M L ys f) = some res := h
            rw [gx_force_eq] at h
            obtain ⟨o1, o2⟩ := gx_one_s (r := r.1) (dep := r.2) hc hq hr
            obtain ⟨l1, l2⟩ := ih r.1 res o1 h
            exact ⟨l1, ii.1, ii.2, hii, Or.inr ⟨_, o2, gx_ge_s hge, l2⟩⟩
          | false => rw [hge] at h; cases h
        · cases h
theorem gx_call_s {P : Nat → rm_M} {L : Nat} {ys : Nat → Int32} {F : Nat} : ∀ (d mi : Nat) (av : List Value) (rl : List va_E) (n : Nat) (res : gx_R), n = rl.length → gx_call P L ys F d mi av rl n = some res → res.2.2.1 = res.2.1.length ∧ rm_call P L ys d mi av rl.reverse (res.1, res.2.1.reverse, res.2.2.2) := by
  intro d
  induction d with
  | zero => intro mi av rl n res _ z; cases z
  | succ d ih =>
    intro mi av rl n res hn z
    have z : (if (lg_sl av).length ≤ (P mi).2.2.1 then gx_loop (gx_call P L ys F d) P (P mi) L ys F (0, lv_args 0 av, [], rl, n, 0, 0) else none) = some res := z
    split at z
    · rename_i hl
      obtain ⟨l1, l2⟩ := gx_loop_s ih F (0, lv_args 0 av, [], rl, n, 0, 0) res hn z
      exact ⟨l1, hl, F, l2⟩
    · cases z
section GXT
variable {p : Program} {l : Launch} {e : Env} {R : Room} {s : State} {m : MethodId} {args : Array Value} {below : List Frame} {meth : Method} {c : Code} {Q : State → Prop}
variable {sz : Nat} {ext : Nat → Nat} {cA : Nat → ClassId} {D : va_G} {own : String} {L : Nat} {ys : Nat → Int32} {mt : Nat → rm_Y} {P : Nat → rm_M} {nM d : Nat} {M : rm_M}
theorem gx_till_s (hx : p.tables.exec = Jvm.exec) (hml : c.maxLocals = M.2.2.1) (hts : ∀ w ∈ rm_tb, w.before args s = true) (hX : rm_X D cA sz ext L ys s) (hown : s.vm.findClass own = some m.cls) (hks : ∀ k ∈ M.2.1, rm_okK own k ∧ rm_okM mt P nM own k) (hini : M.2.2.2.2.1 = true → meth.name = "<init>" ∧ ∃ q, vwCl[M.2.2.2.2.2]? = some q ∧ q.1 = own) (hfr : d + 2 ≤ R.frames) (hlo : 64 * (d + 2) ≤ R.locals) (hdec : ∀ q ∈ M.1, decode c.code q.1 = .ok (q.2.1, q.2.2)) {call : gx_C} {cR : rm_CL} (hc : ∀ mi av rl n res, n = rl.length → call mi av rl n = some res → res.2.2.1 = res.2.1.length ∧ cR mi av rl.reverse (res.1, res.2.1.reverse, res.2.2.2))
    (Hcall : ∀ (mi : Nat) (av : List Value) (h : rm_H) (res : rm_Re), cR mi av h res → mi < nM → rm_Mt l D cA sz ext L ys mt d mi av h res) {stop : Nat} {q' : gx_N} (hc1 : q'.2.2.2.2.2.1 ≤ R.cells) (hc2 : q'.2.2.2.2.2.2 ≤ R.slots)
    (hEnd : rm_K p l e R s m args below meth c Q M.2.2.1 sz ext cA D (gx_rv q')) :
    ∀ (f : Nat) (q : gx_N), gx_in q → gx_till call P M L ys stop f q = some q' → q.2.2.2.2.2.1 ≤ q'.2.2.2.2.2.1 ∧ q.2.2.2.2.2.2 ≤ q'.2.2.2.2.2.2 ∧ rm_K p l e R s m args below meth c Q M.2.2.1 sz ext cA D (gx_rv q) := by
  intro f
  induction f with
  | zero => intro q _ h; cases h
  | succ f ih =>
    intro q hq h
    have h : gx_tbody call P M L ys stop q (gx_till call P M L ys stop f) = some q' := h
    unfold gx_tbody at h
    cases hb : Nat.beq q.1 stop with
    | true =>
      rw [hb] at h
      have h : some q = some q' := h
      cases h
      exact ⟨Nat.le_refl _, Nat.le_refl _, hEnd⟩
    | false =>
      rw [hb] at h
      dsimp only [cond_false] at h
      split at h
      · cases h
      · rename_i ii hii
        have hmem := rm_find_mem hii
        split at h
        · rename_i r hr
          cases hge : gx_ge q r.1 with
          | true =>
            rw [hge] at h
            have h : gx_force r.2 r.1 (gx_till call P M L ys stop f) = some q' := h
            rw [gx_force_eq] at h
            obtain ⟨o1, o2⟩ := gx_one_s (r := r.1) (dep := r.2) hc hq hr
            obtain ⟨g2, g3, g4⟩ := ih _ o1 h
            have z := gx_ge_s hge
            have hd : decode c.code (gx_rv q).1 = .ok (ii.1, ii.2) := hdec (q.1, ii) hmem
            exact ⟨Nat.le_trans z.1 g2, Nat.le_trans z.2 g3, rm_one_s (M := M) (call := cR) hx hml hts hX hown hks hini hfr hlo Hcall (gx_rv q) (gx_rv r.1) hd o2 (Nat.le_trans g2 hc1) (Nat.le_trans g3 hc2) g4⟩
          | false => rw [hge] at h; cases h
        · cases h
end GXT
/-- the state behind the constructors -/
theorem gx_start : ∃ (q : gx_N) (s0 : im_S), gx_run = some q ∧ q.1 = 18 ∧ q.2.1 = fx_lv1 ∧ q.2.2.1 = [] ∧ q.2.2.2.1.reverse = im_ch gG s0 ∧ tI s0 ∧ vI s0 ∧ (∀ b : Nat, gK[b]? = some 23 → s0.1 b 1 = 0) ∧ s0.1 0 0 = 0 ∧ wgf s0 1 = 0 ∧ wgf s0 5 = 0 ∧ q.2.2.2.2.2.1 ≤ 600000 ∧ q.2.2.2.2.2.2 ≤ 7302250 := by
  have z := gx_ctor
  unfold gx_ok at z
  split at z
  · rename_i q hq
    unfold gx_ckh at z
    simp only [Bool.and_eq_true, decide_eq_true_eq] at z
    obtain ⟨⟨⟨⟨⟨z1, z2⟩, z3⟩, z8⟩, z9⟩, ⟨⟨z4, z5⟩, z6⟩, z7⟩ := z
    obtain ⟨h1, h2, h3, h4⟩ := heap0_ok z4
    exact ⟨q, hS_ q.2.2.2.1.reverse, hq, Nat.eq_of_beq_eq_true z1, z2, z3, h1.symm, h2, h3, h4, z5, z6, z7, Nat.le_of_ble_eq_true z8, Nat.le_of_ble_eq_true z9⟩
  · cases z
