/-! THE CLAIM OUT OF ONE WALK OF THE LAW'S BODY. Your part is whole_start (and what it stands on); all else here is the same for every law, but numbers. -/
def R_law : String := "RootJudgeLaw"
def lw_P (b : Addr) (xs : List Int32) (args : Array Value) (s : State) : Prop := args = #[.ref b] ∧ s.IntsAt b xs ∧ xs.length ≤ 4 ∧ (Jvm.Cond.and given_1 narrow_1).before args s = true
def lw_Q (_ : Array Value) (s : State) (o : Outcome) (t : State) : Prop := o = .returned (some (.int 1)) ∧ Framed s o t [] 600000 7302250
def lw_Z (below : List Frame) (a : Array Value) (s : State) : State → Prop := fun t => ∃ o, t.status = .running ∧ Ended t below o ∧ lw_Q a s o t
/-- the law's own end, with 1 on the stack, nothing written that was there before, its room as the claim has it -/
theorem lw_ret {p : Program} {l : Launch} {e : Env} {s : State} {m : MethodId} {below : List Frame} {meth : Method} {c : Code} {b : Nat} (hx : p.tables.exec = Jvm.exec) (hb : c.code = code) (hr : meth.sig.returnType = ret) (hlocks : meth.locks = false) {pc : Nat} {H : Heap} {ls : Array Slot} (hdg : decode code pc = .ok (.ireturn, 1)) : W p l e room_1 s m #[Value.ref b] below meth c H [] 600000 7302250 (lw_Z below #[Value.ref b] s) (F0 m pc ls [.int 1]) := by
  intro T hT X
  obtain ⟨fs, hret, hrun, hended, hW, hframe⟩ := X.leave (v := some (.int 1)) (hlocks := hlocks) (fun h => by rw [hr] at h; cases h)
  have hmeth' : T.vm.method? m = some meth := X.method'
  refine ⟨T.setFrames fs, ?_, .returned (some (.int 1)), hrun, hended, rfl, ⟨_, rfl⟩, hW, hframe⟩
  jvm_step X.here [X.here.top, hx, hb, hdg, hmeth', hr, ret, narrow_b1]
  (try refine ⟨rfl, ?_⟩); (try refine ⟨rfl, ?_⟩)
  first | (intro acts; rw [hret _ acts rfl rfl rfl]) | rw [hret _ _ rfl rfl rfl]
  exact Steps.refl _
/-- what holds at the law's entry: the machine, the code, the tables' words (any of lw_tbl by 'hts w (by decide +kernel)'), the script of L ints xs at the cell b, what the Statement gives of the start (any of its parts by flat_of_before) -/
def lw_At (p : Program) (s : State) (m : MethodId) (meth : Method) (c : Code) (b L : Nat) (xs : Nat → Int32) : Prop :=
  p.tables.exec = Jvm.exec ∧ c.code = code ∧ meth.sig.returnType = ret ∧ c.maxLocals = 4 ∧ s.vm.findClass R_law = some m.cls ∧ (∀ w ∈ lw_tbl, w.before #[Value.ref b] s = true) ∧ va_X b L xs s s.heap ∧ b < s.heap.size ∧ meth.locks = false ∧ (Jvm.Cond.and given_1 narrow_1).before #[Value.ref b] s = true
section RMZ
variable {p : Program} {e : Env} {s : State} {m : MethodId} {below : List Frame} {meth : Method} {c : Code} {l : Launch} {b L : Nat} {xs : Nat → Int32}
theorem rm_known {args : Array Value} (hts : ∀ w ∈ lw_tbl, w.before args s = true) : ∃ (dC : Nat → ClassId) (dI : Nat → Nat → Nat), ∀ (k : Nat) (q : vw_C), vwCl[k]? = some q → u_Kn s q.1 q.2.1 q.2.2 (dC k) (dI k) := by
  have htb : ∀ w ∈ rm_tb, w.before args s = true := fun w h => hts w (rm_tb_in w h)
  have h : ∀ k : Nat, ∃ z : ClassId × (Nat → Nat), ∀ q : vw_C, vwCl[k]? = some q → u_Kn s q.1 q.2.1 q.2.2 z.1 z.2 := by
    intro k
    cases hq : vwCl[k]? with
    | none => exact ⟨(0, fun _ => 0), fun q h => by cases h⟩
    | some q =>
      obtain ⟨g1, g2, g3, g4, g5, g6⟩ := rm_okC_all k q hq
      obtain ⟨cC, iS, hK⟩ := u_known (C := q.1) (T := q.2.1) (N := q.2.2) htb g1 (htb _ g5)
      exact ⟨(cC, iS), fun q' h => by cases h; exact hK⟩
  obtain ⟨f, hf⟩ := Classical.axiomOfChoice h
  exact ⟨fun k => (f k).1, fun k => (f k).2, fun k q hq => hf k q hq⟩
theorem rm_arrK {args : Array Value} (hts : ∀ w ∈ lw_tbl, w.before args s = true) {ty : FieldType} (hn : ∀ C, ty ≠ .object C) (hw : Cond.arrayClass ty ∈ lw_tbl) : ∃ cA : ClassId, ArrOfT s cA ty ∧ va_RA s cA ty := by
  obtain ⟨cA, kA, comp, h1, h2, h3⟩ := Cond.arrayClass_spec (hts _ hw)
  refine ⟨cA, fun n z => ⟨(fun k h => by cases h), kA, h2, comp, h3⟩, ?_⟩
  unfold va_RA
  split
  · rename_i C; exact absurd rfl (hn C)
  · exact h1
theorem rm_arrO {args : Array Value} (hts : ∀ w ∈ lw_tbl, w.before args s = true) {C : String} (hw : Cond.arrayOver (.object C) ∈ lw_tbl) : ∃ cA : ClassId, ArrOfT s cA (.object C) ∧ va_RA s cA (.object C) := by
  obtain ⟨comp, cc, k, h1, h2, h3, h4, h5⟩ := Cond.arrayOver_spec (hts _ hw)
  exact ⟨cc, fun n z => ⟨(fun k h => by cases h), k, h3, comp, h4⟩, k, comp, h3, h4, h1, h5⟩
theorem rm_arrs {args : Array Value} (hts : ∀ w ∈ lw_tbl, w.before args s = true) : ∃ cA : Nat → ClassId, ∀ (k : Nat) (q : ClassId × FieldType), (rm_tys cA)[k]? = some q → ArrOfT s q.1 q.2 ∧ va_RA s q.1 q.2 := by
  obtain ⟨c0, h0⟩ := rm_arrK hts (ty := .int) (fun C z => by cases z) (by decide +kernel)
  obtain ⟨c1, h1⟩ := rm_arrK hts (ty := .long) (fun C z => by cases z) (by decide +kernel)
  obtain ⟨c2, h2⟩ := rm_arrK hts (ty := .char) (fun C z => by cases z) (by decide +kernel)
  obtain ⟨c3, h3⟩ := rm_arrK hts (ty := .byte) (fun C z => by cases z) (by decide +kernel)
  obtain ⟨c4, h4⟩ := rm_arrK hts (ty := .boolean) (fun C z => by cases z) (by decide +kernel)
  obtain ⟨c5, h5⟩ := rm_arrO hts (C := "RootJudge$Poly") (by decide +kernel)
  obtain ⟨c6, h6⟩ := rm_arrO hts (C := "RootJudge$Big") (by decide +kernel)
  obtain ⟨c7, h7⟩ := rm_arrO hts (C := "RootJudge$Root") (by decide +kernel)
  refine ⟨fun k => match k with | 0 => c0 | 1 => c1 | 2 => c2 | 3 => c3 | 4 => c4 | 5 => c5 | 6 => c6 | _ => c7, ?_⟩
  intro k q hq
  match k, hq with
  | 0, hq => cases hq; exact h0
  | 1, hq => cases hq; exact h1
  | 2, hq => cases hq; exact h2
  | 3, hq => cases hq; exact h3
  | 4, hq => cases hq; exact h4
  | 5, hq => cases hq; exact h5
  | 6, hq => cases hq; exact h6
  | 7, hq => cases hq; exact h7
  | n + 8, hq => simp at hq
theorem rm_text {args : Array Value} (hts : ∀ w ∈ lw_tbl, w.before args s = true) (hgv : (Jvm.Cond.and given_1 narrow_1).before args s = true) : ∃ t v : Nat, vk_R rm_sO rm_sI rm_sT t s ∧ vk_S 1 [rm_sB.length] [rm_sB] (fun _ => t) (fun _ => v) (fun q => s.heap.size ≤ q) s s.heap ∧ va_Z "java/lang/String" "COMPACT_STRINGS" "Z" (.int 1) (fun q => s.heap.size ≤ q) s s.heap := by
  have hs := flat_of_before _ hgv
  have hA : ∀ a : Nat, a < s.heap.size → ¬ (fun q => s.heap.size ≤ q) a := fun a h => Nat.not_le.mpr h
  obtain ⟨adK, adV, h1, h2⟩ := vk_Sof (args := args) (s := s) (N := 1) (tm := fun _ => Term.string rm_sO rm_sI) (len := [rm_sB.length]) (byt := [rm_sB]) (A := fun q => s.heap.size ≤ q)
    (fun i hi => by rcases (show i = 0 by omega) with rfl; decide)
    (fun i hi => hs _ (by decide +kernel)) (fun i hi => hs _ (by decide +kernel)) (fun i hi => hs _ (by decide +kernel))
    (fun i hi => by rcases (show i = 0 by omega) with rfl; exact hs _ (by decide +kernel))
    (fun i hi j hj => by
      rcases (show i = 0 by omega) with rfl
      have hj : j < 3 := hj
      match j, hj with
      | 0, _ => exact hs _ (by decide +kernel)
      | 1, _ => exact hs _ (by decide +kernel)
      | 2, _ => exact hs _ (by decide +kernel))
    (fun i j hi hj hne => absurd (show i = j by omega) hne) hA
  refine ⟨adK 0, adV 0, vk_R.of (hts _ (by decide +kernel)) (h2 0 (by decide)), ⟨fun i hi => ?_, fun i j hi hj _ => by omega⟩, va_Zof (hts _ (by decide +kernel)) (hts _ (by decide +kernel)) (va_eqi (hs _ (by decide +kernel))) hA⟩
  rcases (show i = 0 by omega) with rfl
  exact h1.1 0 hi
/-- what the machine needs at the law's entry -/
theorem rm_ctx (C0 : lw_At p s m meth c b L xs) : ∃ (D : va_G) (cA : Nat → ClassId) (t v : Nat), ∀ F : rm_F, (∀ q ∈ F, ∀ cd : ClassFile.Cond, rm_cn cd = q.2.2.1 → rm_cnd cd (rm_e (rm_ext b t v xs) q.1) q.2.1 = q.2.2.2) → ∀ L', (L' ≠ 1000000 → L' = L) → rm_X D cA s.heap.size (rm_ext b t v xs) L' F s := by
  obtain ⟨hx, hb, hr, hml, hown, hts, hX, hbl, hlocks, hgv⟩ := C0
  obtain ⟨dC, dI, hK⟩ := rm_known hts
  obtain ⟨cA, hA⟩ := rm_arrs hts
  obtain ⟨t, v, k1, k2, k3⟩ := rm_text hts hgv
  refine ⟨(dC, dI), cA, t, v, fun F hF L' hL' => ⟨⟨hK, hA⟩, ?_, ?_, fun z => ?_, ⟨hbl, k1, k2, k3⟩, ?_, hF⟩⟩
  · intro t C h
    match t, h with
    | 0, h => cases h
    | 1, h => cases h
    | 2, h => cases h
    | 3, h => cases h
    | 4, h => cases h
    | 5, h => cases h; exact va_AO.of (hts _ (by decide +kernel))
    | 6, h => cases h; exact va_AO.of (hts _ (by decide +kernel))
    | 7, h => cases h; exact va_AO.of (hts _ (by decide +kernel))
    | n + 8, h => simp at h
  · intro w hw
    have g := List.mem_filter.mp hw
    have h := hts w g.1
    have g2 := g.2
    cases w <;> first | exact va_Nw.of rfl h | cases g2
  · rw [hL' z]
    refine ⟨xs, hX, fun j hj => ?_⟩
    rw [rm_e_ext]
    match j, hj with
    | 0, _ => rfl
    | 1, _ => rfl
    | 2, _ => rfl
    | 3, _ => rfl
  · intro op k y j h
    rw [rm_e_ext, rm_e_ext]
    exact rm_sym_s xs op k y j h
/-- a run that ends with 1 from behind the constructors on -/
theorem rm_from1 (C0 : lw_At p s m meth c b L xs) {D : va_G} {cA : Nat → ClassId} {ext : Nat → Nat} {F : rm_F} (hX : rm_X D cA s.heap.size ext L F s) (hrun : rm_chk (rm_runL L F) = true) : rm_K p l e room_1 s m #[Value.ref b] below meth c (lw_Z below #[Value.ref b] s) 4 s.heap.size ext cA D rm_q1 := by
  obtain ⟨hx, hb, hr, hml, hown, hts, -, hbl, hlocks, hgv⟩ := C0
  unfold rm_runL at hrun
  rw [rm_force_eq] at hrun
  unfold rm_chk at hrun
  split at hrun
  · rename_i v h uc us orc ok hres
    simp only [Bool.and_eq_true, decide_eq_true_eq] at hrun
    obtain ⟨⟨⟨rfl, hc1⟩, hc2⟩, hok⟩ := hrun
    refine (rm_loop_s (p := p) (l := l) (e := e) (R := room_1) (s := s) (m := m) (args := #[Value.ref b]) (below := below) (meth := meth) (c := c) (Q := lw_Z below #[Value.ref b] s) (sz := s.heap.size) (ext := ext) (cA := cA) (D := D) (own := RL) (L := L) (xs := F) (mt := rm_mt) (P := rm_P) (nM := 89) (d := 13) (M := rm_p_L_law)
      hx hml (fun w h => hts w (rm_tb_in w h)) hX hown rm_lk_L_law (fun z => by cases z) (by decide) (by decide) (by rw [hb]; exact rm_d_L_law) (call := rm_meth rm_P L F 13) (rm_meth_s rm_P_ok 13) (res := (some (.int 1), h, uc, us, orc, ok)) hok hc1 hc2 ?_ 3000 rm_q1 hres).2.2.2
    intro q i n hmem hre ls H locs hl hR hS
    have hd : decode c.code q.1 = .ok (i, n) := by rw [hb]; exact rm_d_L_law (q.1, i, n) hmem
    unfold rm_ret at hre
    split at hre
    · split at hre <;> cases hre
    · rename_i v hst
      split at hre
      · rename_i hn
        obtain ⟨rfl, -⟩ := hn
        have e9 := Option.some.inj hre
        have e8 : some (Value.int v) = some (Value.int 1) := congrArg Prod.fst e9
        have e2 : q.2.2.2 = (h, uc, us, orc, ok) := congrArg Prod.snd e9
        have ev : v = 1 := by
          have e7 := Option.some.inj e8
          injection e7
        subst ev
        have z1 : q.2.2.2.2.1 = uc := by rw [e2]
        have z2 : q.2.2.2.2.2.1 = us := by rw [e2]
        rw [z1, z2, hst]
        rw [hb] at hd
        refine va_forget (fun z hz => hS.2 z hz) ?_
        refine W.widen (k := 600000) (n := 7302250) hc1 hc2 ?_
        exact lw_ret hx hb hr hlocks hd
      · cases hre
    · split at hre <;> cases hre
    · split at hre <;> cases hre
    · cases hre
  · cases hrun
theorem rm_from0 (C0 : lw_At p s m meth c b L xs) {D : va_G} {cA : Nat → ClassId} {ext : Nat → Nat} (hX : rm_X D cA s.heap.size ext 1000000 [] s) (K : rm_K p l e room_1 s m #[Value.ref b] below meth c (lw_Z below #[Value.ref b] s) 4 s.heap.size ext cA D rm_q1) : rm_K p l e room_1 s m #[Value.ref b] below meth c (lw_Z below #[Value.ref b] s) 4 s.heap.size ext cA D rm_q0 := by
  obtain ⟨hx, hb, hr, hml, hown, hts, -, hbl, hlocks, hgv⟩ := C0
  have hc := rm_ctor
  unfold rm_chk1 at hc
  split at hc
  · rename_i q hq
    simp only [Bool.and_eq_true, decide_eq_true_eq] at hc
    obtain ⟨⟨⟨⟨⟨⟨g1, g2⟩, g3⟩, g4⟩, g5⟩, g6⟩, g7⟩ := hc
    refine (rm_till_s (p := p) (l := l) (e := e) (R := room_1) (s := s) (m := m) (args := #[Value.ref b]) (below := below) (meth := meth) (c := c) (Q := lw_Z below #[Value.ref b] s) (sz := s.heap.size) (ext := ext) (cA := cA) (D := D) (own := RL) (L := 1000000) (xs := []) (mt := rm_mt) (P := rm_P) (nM := 89) (d := 13) (M := rm_p_L_law)
      hx hml (fun w h => hts w (rm_tb_in w h)) hX hown rm_lk_L_law (fun z => by cases z) (by decide) (by decide) (by rw [hb]; exact rm_d_L_law) (call := rm_meth rm_P 1000000 [] 13) (rm_meth_s rm_P_ok 13) (stop := 18) (q' := q) g7 (by rw [g5]; decide) (by rw [g6]; decide) ?_ 3000 rm_q0 hq).2.2.2
    intro ls H locs hl hR hS
    rw [g1, g3, g5, g6]
    rw [g2] at hl
    exact K ls H locs hl (hR.sim g4) hS
  · cases hc
/-- a case -/
theorem rm_case (C0 : lw_At p s m meth c b 4 xs) (cs : rm_Cs) (hk : cs.2.all (rm_ivk cs.1) = true) (hrun : rm_chk (rm_runL 4 cs.2) = true) (hiv : ∀ q ∈ cs.1, q.2.1 ≤ (rm_vals xs q.1).toInt ∧ (rm_vals xs q.1).toInt ≤ q.2.2) : ∃ (D : va_G) (cA : Nat → ClassId) (ext : Nat → Nat), ext 0 = b ∧ rm_K p l e room_1 s m #[Value.ref b] below meth c (lw_Z below #[Value.ref b] s) 4 s.heap.size ext cA D rm_q0 := by
  obtain ⟨D, cA, t, v, hX⟩ := rm_ctx C0
  refine ⟨D, cA, rm_ext b t v xs, rfl, ?_⟩
  refine rm_from0 C0 (hX [] (fun q h => by cases h) 1000000 (fun z => absurd rfl z)) ?_
  refine rm_from1 C0 (hX cs.2 (fun q hq cd hcd => rm_ivk_s (fun z hz => ?_) (List.all_eq_true.mp hk q hq) cd hcd) 4 (fun _ => rfl)) hrun
  rw [rm_e_ext]
  exact hiv z hz
theorem rm_small (C0 : lw_At p s m meth c b L xs) (hrun : rm_chk (rm_runL L []) = true) : ∃ (D : va_G) (cA : Nat → ClassId) (ext : Nat → Nat), ext 0 = b ∧ rm_K p l e room_1 s m #[Value.ref b] below meth c (lw_Z below #[Value.ref b] s) 4 s.heap.size ext cA D rm_q0 := by
  obtain ⟨D, cA, t, v, hX⟩ := rm_ctx C0
  refine ⟨D, cA, rm_ext b t v xs, rfl, ?_⟩
  refine rm_from0 C0 (hX [] (fun q h => by cases h) 1000000 (fun z => absurd rfl z)) ?_
  exact rm_from1 C0 (hX [] (fun q h => by cases h) L (fun _ => rfl)) hrun
theorem rm_entry (C0 : lw_At p s m meth c b L xs) (h : ∃ (D : va_G) (cA : Nat → ClassId) (ext : Nat → Nat), ext 0 = b ∧ rm_K p l e room_1 s m #[Value.ref b] below meth c (lw_Z below #[Value.ref b] s) 4 s.heap.size ext cA D rm_q0) : W p l e room_1 s m #[Value.ref b] below meth c s.heap [] 0 0 (lw_Z below #[Value.ref b] s) (entryFrame m ([Value.ref b] : List Value).toArray 4) := by
  obtain ⟨D, cA, ext, he, K⟩ := h
  have hl := lv_entry ([.ref b]) (n := 4) (Nat.le_of_ble_eq_true rfl)
  rw [lg_entry_eq]
  refine K _ s.heap [] ?_ ⟨rfl, fun k c h => by simp [rm_q0] at h⟩ ⟨fun _ _ => rfl, fun _ h => by cases h⟩
  have e : rm_l s.heap.size ext rm_q0.2.1 = lv_args 0 [.ref b] := by
    show [(0, Value.ref (ext 0))] = [(0, Value.ref b)]
    rw [he]
  rw [e]
  exact hl
end RMZ
