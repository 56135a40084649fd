/-! THE CLAIM OUT OF ONE WALK OF THE LAW'S BODY. Your part is whole_start (and what it stands on); all else here is the same for every law, but numbers. -/
def R_law : String := "RootJudgeLaw"
def lw_P (b : Addr) (xs : List Int32) (args : Array Value) (s : State) : Prop := args = #[.ref b] ∧ s.IntsAt b xs ∧ xs.length ≤ 2048 ∧ (Jvm.Cond.and given_1 narrow_1).before args s = true
def lw_Q (_ : Array Value) (s : State) (o : Outcome) (t : State) : Prop := o = .returned (some (.int 1)) ∧ Framed s o t [] 600000 7302250
def lw_Z (below : List Frame) (a : Array Value) (s : State) : State → Prop := fun t => ∃ o, t.status = .running ∧ Ended t below o ∧ lw_Q a s o t
/-- the law's own end, with 1 on the stack, nothing written that was there before, its room as the claim has it -/
theorem lw_ret {p : Program} {l : Launch} {e : Env} {s : State} {m : MethodId} {below : List Frame} {meth : Method} {c : Code} {b : Nat} (hx : p.tables.exec = Jvm.exec) (hb : c.code = code) (hr : meth.sig.returnType = ret) (hlocks : meth.locks = false) {pc : Nat} {H : Heap} {ls : Array Slot} (hdg : decode code pc = .ok (.ireturn, 1)) : W p l e room_1 s m #[Value.ref b] below meth c H [] 600000 7302250 (lw_Z below #[Value.ref b] s) (F0 m pc ls [.int 1]) := by
  intro T hT X
  obtain ⟨fs, hret, hrun, hended, hW, hframe⟩ := X.leave (v := some (.int 1)) (hlocks := hlocks) (fun h => by rw [hr] at h; cases h)
  have hmeth' : T.vm.method? m = some meth := X.method'
  refine ⟨T.setFrames fs, ?_, .returned (some (.int 1)), hrun, hended, rfl, ⟨_, rfl⟩, hW, hframe⟩
  jvm_step X.here [X.here.top, hx, hb, hdg, hmeth', hr, ret, narrow_b1]
  (try refine ⟨rfl, ?_⟩); (try refine ⟨rfl, ?_⟩)
  first | (intro acts; rw [hret _ acts rfl rfl rfl]) | rw [hret _ _ rfl rfl rfl]
  exact Steps.refl _
/-- what holds at the law's entry: the machine, the code, the tables' words (any of lw_tbl by 'hts w (by decide +kernel)'), the script of L ints xs at the cell b, what the Statement gives of the start (any of its parts by flat_of_before) -/
def lw_At (p : Program) (s : State) (m : MethodId) (meth : Method) (c : Code) (b L : Nat) (xs : Nat → Int32) : Prop :=
  p.tables.exec = Jvm.exec ∧ c.code = code ∧ meth.sig.returnType = ret ∧ c.maxLocals = 4 ∧ s.vm.findClass R_law = some m.cls ∧ (∀ w ∈ lw_tbl, w.before #[Value.ref b] s = true) ∧ va_X b L xs s s.heap ∧ b < s.heap.size ∧ meth.locks = false ∧ (Jvm.Cond.and given_1 narrow_1).before #[Value.ref b] s = true
section RMZ
variable {p : Program} {e : Env} {s : State} {m : MethodId} {below : List Frame} {meth : Method} {c : Code} {l : Launch} {b L : Nat} {xs : Nat → Int32}
theorem rm_known {args : Array Value} (hts : ∀ w ∈ lw_tbl, w.before args s = true) : ∃ (dC : Nat → ClassId) (dI : Nat → Nat → Nat), ∀ (k : Nat) (q : vw_C), vwCl[k]? = some q → u_Kn s q.1 q.2.1 q.2.2 (dC k) (dI k) := by
  have htb : ∀ w ∈ rm_tb, w.before args s = true := fun w h => hts w (rm_tb_in w h)
  have h : ∀ k : Nat, ∃ z : ClassId × (Nat → Nat), ∀ q : vw_C, vwCl[k]? = some q → u_Kn s q.1 q.2.1 q.2.2 z.1 z.2 := by
    intro k
    cases hq : vwCl[k]? with
    | none => exact ⟨(0, fun _ => 0), fun q h => by cases h⟩
    | some q =>
      obtain ⟨g1, g2, g3, g4, g5, g6⟩ := rm_okC_all k q hq
      obtain ⟨cC, iS, hK⟩ := u_known (C := q.1) (T := q.2.1) (N := q.2.2) htb g1 (htb _ g5)
      exact ⟨(cC, iS), fun q' h => by cases h; exact hK⟩
  obtain ⟨f, hf⟩ := Classical.axiomOfChoice h
  exact ⟨fun k => (f k).1, fun k => (f k).2, fun k q hq => hf k q hq⟩
theorem rm_arrK {args : Array Value} (hts : ∀ w ∈ lw_tbl, w.before args s = true) {ty : FieldType} (hn : ∀ C, ty ≠ .object C) (hw : Cond.arrayClass ty ∈ lw_tbl) : ∃ cA : ClassId, ArrOfT s cA ty ∧ va_RA s cA ty := by
  obtain ⟨cA, kA, comp, h1, h2, h3⟩ := Cond.arrayClass_spec (hts _ hw)
  refine ⟨cA, fun n z => ⟨(fun k h => by cases h), kA, h2, comp, h3⟩, ?_⟩
  unfold va_RA
  split
  · rename_i C; exact absurd rfl (hn C)
  · exact h1
theorem rm_arrO {args : Array Value} (hts : ∀ w ∈ lw_tbl, w.before args s = true) {C : String} (hw : Cond.arrayOver (.object C) ∈ lw_tbl) : ∃ cA : ClassId, ArrOfT s cA (.object C) ∧ va_RA s cA (.object C) := by
  obtain ⟨comp, cc, k, h1, h2, h3, h4, h5⟩ := Cond.arrayOver_spec (hts _ hw)
  exact ⟨cc, fun n z => ⟨(fun k h => by cases h), k, h3, comp, h4⟩, k, comp, h3, h4, h1, h5⟩
theorem rm_arrs {args : Array Value} (hts : ∀ w ∈ lw_tbl, w.before args s = true) : ∃ cA : Nat → ClassId, ∀ (k : Nat) (q : ClassId × FieldType), (rm_tys cA)[k]? = some q → ArrOfT s q.1 q.2 ∧ va_RA s q.1 q.2 := by
  obtain ⟨c0, h0⟩ := rm_arrK hts (ty := .int) (fun C z => by cases z) (by decide +kernel)
  obtain ⟨c1, h1⟩ := rm_arrK hts (ty := .long) (fun C z => by cases z) (by decide +kernel)
  obtain ⟨c2, h2⟩ := rm_arrK hts (ty := .char) (fun C z => by cases z) (by decide +kernel)
  obtain ⟨c3, h3⟩ := rm_arrK hts (ty := .byte) (fun C z => by cases z) (by decide +kernel)
  obtain ⟨c4, h4⟩ := rm_arrK hts (ty := .boolean) (fun C z => by cases z) (by decide +kernel)
  obtain ⟨c5, h5⟩ := rm_arrO hts (C := "RootJudge$Poly") (by decide +kernel)
  obtain ⟨c6, h6⟩ := rm_arrO hts (C := "RootJudge$Big") (by decide +kernel)
  obtain ⟨c7, h7⟩ := rm_arrO hts (C := "RootJudge$Root") (by decide +kernel)
  refine ⟨fun k => match k with | 0 => c0 | 1 => c1 | 2 => c2 | 3 => c3 | 4 => c4 | 5 => c5 | 6 => c6 | _ => c7, ?_⟩
  intro k q hq
  match k, hq with
  | 0, hq => cases hq; exact h0
  | 1, hq => cases hq; exact h1
  | 2, hq => cases hq; exact h2
  | 3, hq => cases hq; exact h3
  | 4, hq => cases hq; exact h4
  | 5, hq => cases hq; exact h5
  | 6, hq => cases hq; exact h6
  | 7, hq => cases hq; exact h7
  | n + 8, hq => simp at hq
theorem rm_text {args : Array Value} (hts : ∀ w ∈ lw_tbl, w.before args s = true) (hgv : (Jvm.Cond.and given_1 narrow_1).before args s = true) : ∃ ext : Nat → Nat, ∀ ext' : Nat → Nat, (∀ n, 2 ≤ n → ext' n = ext n) → rm_G s.heap.size ext' s s.heap := by
  have hs := flat_of_before _ hgv
  have hA : ∀ a : Nat, a < s.heap.size → ¬ (fun q => s.heap.size ≤ q) a := fun a h => Nat.not_le.mpr h
  obtain ⟨adK, adV, h1, h2⟩ := vk_Sof (args := args) (s := s) (N := 2) (tm := fun t => Term.string (rm_sO t) (rm_sI t)) (len := rm_sN) (byt := rm_sB) (A := fun q => s.heap.size ≤ q)
    (fun i hi => by rcases (show i = 0 ∨ i = 1 by omega) with rfl | rfl <;> decide)
    (fun i hi => by rcases (show i = 0 ∨ i = 1 by omega) with rfl | rfl <;> exact hs _ (by decide +kernel))
    (fun i hi => by rcases (show i = 0 ∨ i = 1 by omega) with rfl | rfl <;> exact hs _ (by decide +kernel))
    (fun i hi => by rcases (show i = 0 ∨ i = 1 by omega) with rfl | rfl <;> exact hs _ (by decide +kernel))
    (fun i hi => by rcases (show i = 0 ∨ i = 1 by omega) with rfl | rfl <;> exact hs _ (by decide +kernel))
    (fun i hi j hj => by
      rcases (show i = 0 ∨ i = 1 by omega) with rfl | rfl
      · have hj : j < 15 := hj
        match j, hj with
        | 0, _ => exact hs _ (by decide +kernel)
        | 1, _ => exact hs _ (by decide +kernel)
        | 2, _ => exact hs _ (by decide +kernel)
        | 3, _ => exact hs _ (by decide +kernel)
        | 4, _ => exact hs _ (by decide +kernel)
        | 5, _ => exact hs _ (by decide +kernel)
        | 6, _ => exact hs _ (by decide +kernel)
        | 7, _ => exact hs _ (by decide +kernel)
        | 8, _ => exact hs _ (by decide +kernel)
        | 9, _ => exact hs _ (by decide +kernel)
        | 10, _ => exact hs _ (by decide +kernel)
        | 11, _ => exact hs _ (by decide +kernel)
        | 12, _ => exact hs _ (by decide +kernel)
        | 13, _ => exact hs _ (by decide +kernel)
        | 14, _ => exact hs _ (by decide +kernel)
      · have hj : j < 3 := hj
        match j, hj with
        | 0, _ => exact hs _ (by decide +kernel)
        | 1, _ => exact hs _ (by decide +kernel)
        | 2, _ => exact hs _ (by decide +kernel))
    (fun i j hi hj hne => by
      rcases (show (i = 0 ∧ j = 1) ∨ (i = 1 ∧ j = 0) by omega) with ⟨rfl, rfl⟩ | ⟨rfl, rfl⟩
      · first | exact Or.inl (hs _ (by decide +kernel)) | exact Or.inr (hs _ (by decide +kernel))
      · first | exact Or.inl (hs _ (by decide +kernel)) | exact Or.inr (hs _ (by decide +kernel))) hA
  have hel : ∀ j : Nat, j < rm_zN → (Term.elem (.static rm_zC rm_zF "[I") (.int (Int32.ofNat j))).eval args s none [] s = some (.int (rm_zV.getD j 0)) := fun j hj => va_eqt (by
    have hj : j < 44 := hj
    match j, hj with
    | 0, _ => exact hs _ (by decide +kernel)
    | 1, _ => exact hs _ (by decide +kernel)
    | 2, _ => exact hs _ (by decide +kernel)
    | 3, _ => exact hs _ (by decide +kernel)
    | 4, _ => exact hs _ (by decide +kernel)
    | 5, _ => exact hs _ (by decide +kernel)
    | 6, _ => exact hs _ (by decide +kernel)
    | 7, _ => exact hs _ (by decide +kernel)
    | 8, _ => exact hs _ (by decide +kernel)
    | 9, _ => exact hs _ (by decide +kernel)
    | 10, _ => exact hs _ (by decide +kernel)
    | 11, _ => exact hs _ (by decide +kernel)
    | 12, _ => exact hs _ (by decide +kernel)
    | 13, _ => exact hs _ (by decide +kernel)
    | 14, _ => exact hs _ (by decide +kernel)
    | 15, _ => exact hs _ (by decide +kernel)
    | 16, _ => exact hs _ (by decide +kernel)
    | 17, _ => exact hs _ (by decide +kernel)
    | 18, _ => exact hs _ (by decide +kernel)
    | 19, _ => exact hs _ (by decide +kernel)
    | 20, _ => exact hs _ (by decide +kernel)
    | 21, _ => exact hs _ (by decide +kernel)
    | 22, _ => exact hs _ (by decide +kernel)
    | 23, _ => exact hs _ (by decide +kernel)
    | 24, _ => exact hs _ (by decide +kernel)
    | 25, _ => exact hs _ (by decide +kernel)
    | 26, _ => exact hs _ (by decide +kernel)
    | 27, _ => exact hs _ (by decide +kernel)
    | 28, _ => exact hs _ (by decide +kernel)
    | 29, _ => exact hs _ (by decide +kernel)
    | 30, _ => exact hs _ (by decide +kernel)
    | 31, _ => exact hs _ (by decide +kernel)
    | 32, _ => exact hs _ (by decide +kernel)
    | 33, _ => exact hs _ (by decide +kernel)
    | 34, _ => exact hs _ (by decide +kernel)
    | 35, _ => exact hs _ (by decide +kernel)
    | 36, _ => exact hs _ (by decide +kernel)
    | 37, _ => exact hs _ (by decide +kernel)
    | 38, _ => exact hs _ (by decide +kernel)
    | 39, _ => exact hs _ (by decide +kernel)
    | 40, _ => exact hs _ (by decide +kernel)
    | 41, _ => exact hs _ (by decide +kernel)
    | 42, _ => exact hs _ (by decide +kernel)
    | 43, _ => exact hs _ (by decide +kernel)
    | n + 44, h => exact absurd h (by omega))
  obtain ⟨z, hz1, hz2⟩ := va_Tof (args := args) (s := s) (tm := .static rm_zC rm_zF "[I") (ty := .int) (N := rm_zN) (f := fun j => .int (rm_zV.getD j 0)) (A := fun q => s.heap.size ≤ q) (by decide) (hs _ (by decide +kernel)) (va_eqt (hs _ (by decide +kernel))) hel hA
  refine ⟨fun n => match n with | 2 => adK 0 | 3 => adV 0 | 4 => adK 1 | 5 => adV 1 | _ => z, fun ext' he => ?_⟩
  have e2 : ext' 2 = adK 0 := he 2 (by decide)
  have e3 : ext' 3 = adV 0 := he 3 (by decide)
  have e4 : ext' 4 = adK 1 := he 4 (by decide)
  have e5 : ext' 5 = adV 1 := he 5 (by decide)
  have e6 : ext' 6 = z := he 6 (by decide)
  refine ⟨fun t ht => ?_, ⟨fun i hi => ?_, fun i j hi hj hne => ?_⟩, va_Zof (hts _ (by decide +kernel)) (hts _ (by decide +kernel)) (va_eqi (hs _ (by decide +kernel))) hA, ?_, ?_⟩
  · rcases (show t = 0 ∨ t = 1 by omega) with rfl | rfl
    · rw [show ext' (2 + 2 * 0) = adK 0 from e2]; exact vk_R.of (hts _ (by decide +kernel)) (h2 0 (by decide))
    · rw [show ext' (2 + 2 * 1) = adK 1 from e4]; exact vk_R.of (hts _ (by decide +kernel)) (h2 1 (by decide))
  · rcases (show i = 0 ∨ i = 1 by omega) with rfl | rfl
    · have := h1.1 0 hi
      dsimp only
      rw [show ext' (2 + 2 * 0) = adK 0 from e2, show ext' (3 + 2 * 0) = adV 0 from e3]
      exact this
    · have := h1.1 1 hi
      dsimp only
      rw [show ext' (2 + 2 * 1) = adK 1 from e4, show ext' (3 + 2 * 1) = adV 1 from e5]
      exact this
  · have := h1.2 i j hi hj
    rcases (show (i = 0 ∨ i = 1) ∧ (j = 0 ∨ j = 1) by omega) with ⟨rfl | rfl, rfl | rfl⟩ <;> dsimp only at hne ⊢ <;> simp_all
  · rw [e6]; exact va_Zof (hts _ (by decide +kernel)) (hts _ (by decide +kernel)) hz1 hA
  · rw [e6]; exact hz2
/-- what the machine needs at the law's entry -/
theorem rm_ctx (C0 : lw_At p s m meth c b L xs) : ∃ (D : va_G) (cA : Nat → ClassId) (ext : Nat → Nat), ext 0 = b ∧ ∀ (L' : Nat) (ys : Nat → Int32), (L' ≠ 1000000 → L' = L ∧ ys = xs) → rm_X D cA s.heap.size ext L' ys s := by
  obtain ⟨hx, hb, hr, hml, hown, hts, hX, hbl, hlocks, hgv⟩ := C0
  obtain ⟨dC, dI, hK⟩ := rm_known hts
  obtain ⟨cA, hA⟩ := rm_arrs hts
  obtain ⟨ext, he⟩ := rm_text hts hgv
  refine ⟨(dC, dI), cA, fun n => match n with | 0 => b | 1 => 0 | n + 2 => ext (n + 2), rfl, fun L' ys hL' => ⟨⟨hK, hA⟩, ?_, ?_, fun z => ?_, hbl, he _ (fun n hn => ?_)⟩⟩
  · intro t C h
    match t, h with
    | 0, h => cases h
    | 1, h => cases h
    | 2, h => cases h
    | 3, h => cases h
    | 4, h => cases h
    | 5, h => cases h; exact va_AO.of (hts _ (by decide +kernel))
    | 6, h => cases h; exact va_AO.of (hts _ (by decide +kernel))
    | 7, h => cases h; exact va_AO.of (hts _ (by decide +kernel))
    | n + 8, h => simp at h
  · intro w hw
    have g := List.mem_filter.mp hw
    have h := hts w g.1
    have g2 := g.2
    cases w <;> first | exact va_Nw.of rfl h | cases g2
  · obtain ⟨e1, e2⟩ := hL' z
    rw [e1, e2]
    exact hX
  · match n, hn with
    | n + 2, _ => rfl
end RMZ
