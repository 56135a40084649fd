/-! THE LOOP AND THE METHODS ARE SOUND -/
def rm_rt (rt : Nat) (ret : Option FieldType) : Prop := match rt with
  | 0 => ret = none
  | 1 => ret = some .int
  | 2 => ret = some .boolean
  | 3 => ret = some .long
  | 4 => ∃ n, ret = some (.object n)
  | 5 => ret = some .byte
  | _ => False
/-- a method of the table is as the claim's tables have it -/
def rm_okP (mt : Nat → rm_Y) (P : Nat → rm_M) (nM mi : Nat) : Prop :=
  (∀ q ∈ (P mi).1, decode (mt mi).2.1 q.1 = .ok (q.2.1, q.2.2)) ∧ (∀ k ∈ (P mi).2.1, rm_okK (mt mi).1.cls k ∧ rm_okM mt P nM (mt mi).1.cls k) ∧ (P mi).2.2.1 = (mt mi).2.2.1 ∧ rm_rt (P mi).2.2.2.1 (mt mi).2.2.2 ∧ ((P mi).2.2.2.2.1 = true → (mt mi).1.name = "<init>" ∧ ∃ q, vwCl[(P mi).2.2.2.2.2]? = some q ∧ q.1 = (mt mi).1.cls) ∧ plainFor (mt mi).1 = true
section RML
variable {p : Program} {l : Launch} {e : Env} {R : Room} {s : State} {m : MethodId} {args : Array Value} {below : List Frame} {meth : Method} {c : Code} {Q : State → Prop}
variable {sz : Nat} {ext : Nat → Nat} {cA : Nat → ClassId} {D : va_G} {own : String} {L : Nat} {ys : Nat → Int32} {mt : Nat → rm_Y} {P : Nat → rm_M} {nM d : Nat} {M : rm_M}
theorem rm_one_s (hx : p.tables.exec = Jvm.exec) (hml : c.maxLocals = M.2.2.1) (hts : ∀ w ∈ rm_tb, w.before args s = true) (hX : rm_X D cA sz ext L ys s) (hown : s.vm.findClass own = some m.cls) (hks : ∀ k ∈ M.2.1, rm_okK own k ∧ rm_okM mt P nM own k) (hini : M.2.2.2.2.1 = true → meth.name = "<init>" ∧ ∃ q, vwCl[M.2.2.2.2.2]? = some q ∧ q.1 = own) (hfr : d + 2 ≤ R.frames) (hlo : 64 * (d + 2) ≤ R.locals) {call : rm_CL}
    (Hcall : ∀ (mi : Nat) (av : List Value) (h : rm_H) (res : rm_Re), call mi av h res → mi < nM → rm_Mt l D cA sz ext L ys mt d mi av h res) {i : Instr} {n : Nat} : rm_KP p l e R s m args below meth c Q M.2.2.1 sz ext cA D i n (rm_one call P M L ys i n) := by
  intro q r hd hf hc1 hc2 K
  unfold rm_one at hf
  split at hf
  · rename_i kk hkk
    obtain ⟨rfl, hf⟩ := hf
    unfold rm_inv at hf
    split at hf
    · rename_i mi na hk1 hk2
      have hok := (hks _ (rm_lk_mem hk2)).2
      cases i <;> first | (cases hkk; done) | skip
      all_goals (cases hkk; first | (cases hk1; done) | skip)
      exact rm_invS_s hx hml hts hX hown hfr hlo Hcall hok q r hd hf hc1 hc2 K
    · rename_i mi na hk1 hk2
      have hok := (hks _ (rm_lk_mem hk2)).2
      cases i <;> first | (cases hkk; done) | skip
      all_goals (cases hkk; first | (cases hk1; done) | skip)
      obtain ⟨z1, z2, z3, z4⟩ := hok
      exact rm_s_acopy hx hml hts hX hown z1 z2 z3 z4 (by omega) (by omega) q r hd hf hc1 hc2 K
    · rename_i mi na hk1 hk2
      have hok := (hks _ (rm_lk_mem hk2)).2
      cases i <;> first | (cases hkk; done) | skip
      all_goals (cases hkk; first | (cases hk1; done) | skip)
      exact rm_invV_s hx hml hts hX hown hfr hlo Hcall hok q r hd hf hc1 hc2 K
    · rename_i mi na hk1 hk2
      have hok := (hks _ (rm_lk_mem hk2)).2
      cases i <;> first | (cases hkk; done) | skip
      all_goals (cases hkk; first | (cases hk1; done) | skip)
      exact rm_invF_s hx hml hts hX hown hfr hlo Hcall hok q r hd hf hc1 hc2 K
    · rename_i mi na hk1 hk2
      have hok := (hks _ (rm_lk_mem hk2)).2
      cases i <;> first | (cases hkk; done) | skip
      all_goals (cases hkk; first | (cases hk1; done) | skip)
      exact rm_invI_s hx hml hts hX hown hfr hlo Hcall hok q r hd hf hc1 hc2 K
    · rename_i mi na hk1 hk2
      have hok := (hks _ (rm_lk_mem hk2)).2
      cases i <;> first | (cases hkk; done) | skip
      all_goals (cases hkk; first | (cases hk1; done) | skip)
      exact rm_invO_s hx hml hts hown hfr hlo hok q r hd hf hc1 hc2 K
    · cases hf
  · obtain ⟨g, hg, hf⟩ := hf
    exact rm_op_s hx hts hX hown (fun k hk => (hks k hk).1) hini hg q r hd hf hc1 hc2 K
theorem rm_loop_s (hx : p.tables.exec = Jvm.exec) (hml : c.maxLocals = M.2.2.1) (hts : ∀ w ∈ rm_tb, w.before args s = true) (hX : rm_X D cA sz ext L ys s) (hown : s.vm.findClass own = some m.cls) (hks : ∀ k ∈ M.2.1, rm_okK own k ∧ rm_okM mt P nM own k) (hini : M.2.2.2.2.1 = true → meth.name = "<init>" ∧ ∃ q, vwCl[M.2.2.2.2.2]? = some q ∧ q.1 = own) (hfr : d + 2 ≤ R.frames) (hlo : 64 * (d + 2) ≤ R.locals) (hdec : ∀ q ∈ M.1, decode c.code q.1 = .ok (q.2.1, q.2.2)) {call : rm_CL}
    (Hcall : ∀ (mi : Nat) (av : List Value) (h : rm_H) (res : rm_Re), call mi av h res → mi < nM → rm_Mt l D cA sz ext L ys mt d mi av h res) {res : rm_Re} (hc1 : res.2.2.1 ≤ R.cells) (hc2 : res.2.2.2 ≤ R.slots)
    (hEnd : ∀ (q : rm_N) (i : Instr) (n : Nat), (q.1, i, n) ∈ M.1 → rm_ret M.2.2.2.1 i n q = some res → rm_K p l e R s m args below meth c Q M.2.2.1 sz ext cA D q) :
    ∀ (f : Nat) (q : rm_N), rm_loop call P M L ys f q res → q.2.2.2.2.1 ≤ res.2.2.1 ∧ q.2.2.2.2.2 ≤ res.2.2.2 ∧ rm_K p l e R s m args below meth c Q M.2.2.1 sz ext cA D q := by
  intro f
  induction f with
  | zero => intro q h; cases h
  | succ f ih =>
    intro q h
    obtain ⟨i, n, hii, h⟩ : ∃ i n, rm_find M.1 q.1 = some (i, n) ∧ (rm_ret M.2.2.2.1 i n q = some res ∨ ∃ r, rm_one call P M L ys i n q r ∧ rm_ge q r ∧ rm_loop call P M L ys f r res) := h
    have hmem := rm_find_mem hii
    rcases h with hres | ⟨r, hr, hge, h⟩
    · have hK := hEnd q i n hmem hres
      have e2 : res.2 = q.2.2.2 := by
        unfold rm_ret at hres
        split at hres
        all_goals first | (cases hres; done) | skip
        all_goals (split at hres; first | (cases hres; rfl) | cases hres)
        all_goals cases hres
      refine ⟨?_, ?_, hK⟩
      · rw [e2]; exact Nat.le_refl _
      · rw [e2]; exact Nat.le_refl _
    · obtain ⟨g2, g3, hK⟩ := ih r h
      have hd : decode c.code q.1 = .ok (i, n) := hdec (q.1, i, n) hmem
      exact ⟨Nat.le_trans hge.1 g2, Nat.le_trans hge.2 g3, rm_one_s (M := M) (call := call) hx hml hts hX hown hks hini hfr hlo Hcall q r hd hr (Nat.le_trans g2 hc1) (Nat.le_trans g3 hc2) hK⟩
end RML
theorem rm_lv_args (sz : Nat) (ext : Nat → Nat) (av : List Value) : ∀ i, lv_args i (av.map (rm_v sz ext)) = rm_l sz ext (lv_args i av) := by
  induction av with
  | nil => intro i; rfl
  | cons v r ih =>
    intro i
    show (i, rm_v sz ext v) :: lv_args (if (rm_v sz ext v).category = 2 then i + 2 else i + 1) (r.map (rm_v sz ext)) = (i, rm_v sz ext v) :: rm_l sz ext (lv_args (if v.category = 2 then i + 2 else i + 1) r)
    rw [rm_v_cat, ih]
theorem rm_sl_len (sz : Nat) (ext : Nat → Nat) (av : List Value) : (lg_sl (av.map (rm_v sz ext))).length = (lg_sl av).length := by
  induction av with
  | nil => rfl
  | cons v r ih =>
    unfold lg_sl at ih ⊢
    rw [List.map_cons, List.flatMap_cons, List.flatMap_cons, List.length_append, List.length_append, ih, rm_v_cat]
    split <;> rfl
theorem rm_ret_s {p : Program} {l : Launch} {e : Env} {R : Room} {s : State} {m : MethodId} {args : Array Value} {below : List Frame} {meth : Method} {c : Code} {sz : Nat} {ext : Nat → Nat} {cA : Nat → ClassId} {D : va_G} {rt : Nat} {ret : Option FieldType} (p4 : rm_rt rt ret) (hx : p.tables.exec = Jvm.exec) (hret : meth.sig.returnType = ret) (hlocks : meth.locks = false) {i : Instr} {n : Nat} {q : rm_N} {res : rm_Re} (hre : rm_ret rt i n q = some res) (hd : decode c.code q.1 = .ok (i, n)) {ls : Array Slot} {H : Heap} {locs : List Loc} (hR : rm_R D sz ext cA q.2.2.2.1 H) (hS : rm_S sz s.heap H locs) :
    W p l e R s m args below meth c H locs q.2.2.2.2.1 q.2.2.2.2.2 (MQ below (rm_Qc D cA sz ext res) args s res.2.2.1 res.2.2.2 (fun a => sz ≤ a)) (F0 m q.1 ls (q.2.2.1.map (rm_v sz ext))) := by
  unfold rm_ret at hre
  split at hre
  · rename_i hst
    split at hre
    · rename_i hrt
      obtain ⟨rfl, rfl⟩ := hrt
      cases hre
      rw [hst]
      have p4 : ret = none := p4
      rw [p4] at hret
      exact W.vret hx rfl hret (fun t ht hW => ⟨rfl, by rw [ht]; exact hR, fun z hz => by rw [ht]; exact hS.1 z hz⟩) hS.2 hd
    · cases hre
  · rename_i v hst
    split at hre
    · rename_i hrt
      obtain ⟨rfl, hrt⟩ := hrt
      cases hre
      rw [hst]
      rcases hrt with rfl | ⟨rfl, hv⟩ | ⟨rfl, rfl⟩
      · have p4 : ret = some .int := p4
        rw [p4] at hret
        exact W.iret hx rfl hret (fun t ht hW => ⟨rfl, by rw [ht]; exact hR, fun z hz => by rw [ht]; exact hS.1 z hz⟩) hS.2 hd
      · have p4 : ret = some .boolean := p4
        rw [p4] at hret
        refine W.zret hx rfl hret ?_ (fun t ht hW => ⟨rfl, by rw [ht]; exact hR, fun z hz => by rw [ht]; exact hS.1 z hz⟩) hS.2 hd
        rcases hv with rfl | rfl <;> rfl
      · have p4 : ret = some .byte := p4
        rw [p4] at hret
        exact W.zret hx rfl hret rfl (fun t ht hW => ⟨rfl, by rw [ht]; exact hR, fun z hz => by rw [ht]; exact hS.1 z hz⟩) hS.2 hd
    · cases hre
  · rename_i v hst
    split at hre
    · rename_i hrt
      obtain ⟨rfl, rfl⟩ := hrt
      cases hre
      rw [hst]
      have p4 : ret = some .long := p4
      rw [p4] at hret
      exact W.lret hx rfl hret (fun t ht hW => ⟨rfl, by rw [ht]; exact hR, fun z hz => by rw [ht]; exact hS.1 z hz⟩) hS.2 hd
    · cases hre
  · rename_i v hst
    split at hre
    · rename_i hrt
      obtain ⟨rfl, rfl⟩ := hrt
      cases hre
      rw [hst]
      obtain ⟨nm, p4⟩ : ∃ nm, ret = some (.object nm) := p4
      rw [p4] at hret
      exact W.aret hx rfl hret (Or.inl ⟨nm, rfl⟩) (Or.inr ⟨_, rfl⟩) (fun t ht hW => ⟨rfl, by rw [ht]; exact hR, fun z hz => by rw [ht]; exact hS.1 z hz⟩) hS.2 hd
    · cases hre
  · cases hre
