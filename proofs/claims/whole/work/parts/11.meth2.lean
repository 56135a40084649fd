set_option maxHeartbeats 400000 in
theorem rm_call_s {l : Launch} {ext : Nat → Nat} {cA : Nat → ClassId} {D : va_G} {L : Nat} {ys : Nat → Int32} {mt : Nat → rm_Y} {P : Nat → rm_M} {nM : Nat} (hP : ∀ mi, mi < nM → rm_okP mt P nM mi) :
    ∀ (d sz mi : Nat) (av : List Value) (h : rm_H) (res : rm_Re), rm_call P L ys d mi av h res → mi < nM → rm_Mt l D cA sz ext L ys mt d mi av h res := by
  intro d
  induction d with
  | zero => intro sz mi av h res hr; cases hr
  | succ d ih =>
    intro sz mi av h res hr hmi
    obtain ⟨hlen, f9, hr⟩ : (lg_sl av).length ≤ (P mi).2.2.1 ∧ ∃ f, rm_loop (rm_call P L ys d) P (P mi) L ys f (0, lv_args 0 av, [], h, 0, 0) res := hr
    · skip
      obtain ⟨p1, p2, p3, p4, p5, p6⟩ := hP mi hmi
      unfold rm_Mt
      refine va_MetF (cc := (mt mi).2.1) (maxL := (mt mi).2.2.1) (ret := (mt mi).2.2.2) p6 rfl ?_
      intro p e s m args below meth c s₁ B hml hv
      obtain ⟨rfl, hR, hX⟩ := hv
      have hx := B.exec
      have hb := B.bytes
      have hret := B.returns
      have hts0 := atoms_spec (ws := Cond.code (mt mi).1 (mt mi).2.1 (mt mi).2.2.1 (mt mi).2.2.2 :: rm_tb) B.pre
      have hts : ∀ w ∈ rm_tb, w.before ((av.map (rm_v sz ext)).toArray) s = true := fun w hw => hts0 w (List.mem_cons_of_mem _ hw)
      have hown : s.vm.findClass (mt mi).1.cls = some m.cls := findClass_of_methodNamed B.named
      have hlocks := B.notSynchronized
      have hname : meth.name = (mt mi).1.name := (name_of_methodNamed B.named B.method).1
      have key := rm_loop_s (p := p) (l := l) (e := e) (R := (headSpec (Cond.code (mt mi).1 (mt mi).2.1 (mt mi).2.2.1 (mt mi).2.2.2 :: rm_tb) (rm_rm (d + 1) res.2.2.1 res.2.2.2)).room) (s := s) (m := m) (args := (av.map (rm_v sz ext)).toArray) (below := below) (meth := meth) (c := c) (Q := MQ below (rm_Qc D cA sz ext res) (av.map (rm_v sz ext)).toArray s res.2.2.1 res.2.2.2 (fun a => sz ≤ a)) (sz := sz) (ext := ext) (cA := cA) (D := D) (own := (mt mi).1.cls) (L := L) (ys := ys) (mt := mt) (P := P) (nM := nM) (d := d) (M := P mi)
        hx (by rw [hml, p3]) hts hX hown p2 (fun z => ⟨hname.trans (p5 z).1, (p5 z).2⟩) (Nat.le_refl _) (Nat.le_refl _) (by rw [hb]; exact p1) (call := rm_call P L ys d) (fun mi av h res h1 h2 => ih sz mi av h res h1 h2) (res := res) (Nat.le_refl _) (Nat.le_refl _) ?_ f9 _ hr
      · have hl := lv_entry (av.map (rm_v sz ext)) (n := (mt mi).2.2.1) (by rw [rm_sl_len, ← p3]; exact hlen)
        rw [lg_entry_eq]
        rw [rm_lv_args] at hl
        rw [← p3] at hl ⊢
        exact key.2.2 _ s.heap [] hl hR ⟨fun _ _ => rfl, fun _ h => by cases h⟩
      · intro q i n hmem hre ls H locs hl hR' hS
        have hd : decode c.code q.1 = .ok (i, n) := by rw [hb]; exact p1 (q.1, i, n) hmem
        exact rm_ret_s p4 hx hret hlocks hre hd hR' hS
