/-! THE MACHINE IN WHOLE NUMBERS: behind the constructors no cell is made; the heap is two tables of whole numbers (a cell's field, a row's place) over a fixed list of shapes. A value is a tag (0 int, 1 long, 2 a cell, 3 null, 4 a cell that was there before) and a number. -/
abbrev im_V : Type := Nat × Int
abbrev im_S : Type := (Nat → Nat → Int) × (Nat → Nat → Int)
/-- a shape: (0, class, its fields' kinds: 0 int, 1 long, 2 boolean, 3 a reference) or (1 + type, length, nothing) -/
abbrev im_D : Type := Nat × Nat × List Nat
abbrev im_N : Type := Nat × List (Nat × im_V) × List im_V × im_S
def im_iI (x : Int) : Bool := decide (-2147483648 ≤ x) && decide (x ≤ 2147483647)
def im_iJ (x : Int) : Bool := decide (-9223372036854775808 ≤ x) && decide (x ≤ 9223372036854775807)
def im_cv : im_V → Value
  | (0, x) => .int (Int32.ofInt x)
  | (1, x) => .long (Int64.ofInt x)
  | (2, x) => .ref x.toNat
  | (3, _) => .null
  | (_, x) => .retAddr x.toNat
def im_ok : im_V → Bool
  | (0, x) => im_iI x
  | (1, x) => im_iJ x
  | (2, x) => decide (0 ≤ x)
  | (3, _) => true
  | (t, x) => decide (t = 4) && decide (0 ≤ x)
theorem im_cv_cat (v : im_V) : (im_cv v).category = if v.1 = 1 then 2 else 1 := by
  obtain ⟨t, x⟩ := v
  match t with
  | 0 => rfl
  | 1 => rfl
  | 2 => rfl
  | 3 => rfl
  | n + 4 => simp [im_cv]; rfl
theorem im_of32 (x : Int32) : im_iI x.toInt = true := by
  have h1 := x.le_toInt
  have h2 := x.toInt_lt
  unfold im_iI
  simp only [Bool.and_eq_true, decide_eq_true_eq]
  omega
theorem im_of64 (x : Int64) : im_iJ x.toInt = true := by
  have h1 := x.le_toInt
  have h2 := x.toInt_lt
  unfold im_iJ
  simp only [Bool.and_eq_true, decide_eq_true_eq]
  omega
theorem im_to32 {x : Int} (h : im_iI x = true) : (Int32.ofInt x).toInt = x := by
  unfold im_iI at h
  simp only [Bool.and_eq_true, decide_eq_true_eq] at h
  exact Int32.toInt_ofInt_of_le (by omega) (by omega)
theorem im_to64 {x : Int} (h : im_iJ x = true) : (Int64.ofInt x).toInt = x := by
  unfold im_iJ at h
  simp only [Bool.and_eq_true, decide_eq_true_eq] at h
  exact Int64.toInt_ofInt_of_le (by omega) (by omega)
def im_get : List (Nat × im_V) → Nat → Option im_V
  | [], _ => none
  | q :: r, i => if q.1 == i then some q.2 else im_get r i
def im_put1 (lv : List (Nat × im_V)) (i : Nat) (v : im_V) : List (Nat × im_V) := (i, v) :: lv.filter (fun q => !(q.1 == i) && !(q.1 + 1 == i && q.2.1 == 1))
def im_put2 (lv : List (Nat × im_V)) (i : Nat) (v : im_V) : List (Nat × im_V) := (i, v) :: lv.filter (fun q => !(q.1 == i) && (!(q.1 == i + 1) && !(q.1 + 1 == i && q.2.1 == 1)))
def im_cl (lv : List (Nat × im_V)) : rm_L := lv.map (fun q => (q.1, im_cv q.2))
theorem im_cat2 (v : im_V) : ((im_cv v).category == 2) = (v.1 == 1) := by
  rw [im_cv_cat]
  by_cases h : v.1 = 1 <;> simp [h]
theorem im_get_c (lv : List (Nat × im_V)) (i : Nat) : rm_get (im_cl lv) i = (im_get lv i).map im_cv := by
  induction lv with
  | nil => rfl
  | cons q r ih =>
    show (if q.1 == i then some (im_cv q.2) else rm_get (im_cl r) i) = Option.map im_cv (if q.1 == i then some q.2 else im_get r i)
    by_cases h : (q.1 == i) = true
    · rw [if_pos h, if_pos h]; rfl
    · rw [if_neg h, if_neg h, ih]
theorem im_put1_c (lv : List (Nat × im_V)) (i : Nat) (v : im_V) : rm_put1 (im_cl lv) i (im_cv v) = im_cl (im_put1 lv i v) := by
  unfold rm_put1 im_put1 im_cl
  rw [List.map_cons, List.filter_map]
  refine congrArg (fun z => _ :: List.map _ (List.filter z lv)) ?_
  funext q
  simp [Function.comp, im_cat2]
theorem im_put2_c (lv : List (Nat × im_V)) (i : Nat) (v : im_V) : rm_put2 (im_cl lv) i (im_cv v) = im_cl (im_put2 lv i v) := by
  unfold rm_put2 im_put2 im_cl
  rw [List.map_cons, List.filter_map]
  refine congrArg (fun z => _ :: List.map _ (List.filter z lv)) ?_
  funext q
  simp [Function.comp, im_cat2]
-- the heap
def im_fv (t : Nat) (x : Int) : Value := if t = 1 then .long (Int64.ofInt x) else if t = 3 then (if x < 0 then .null else .ref x.toNat) else .int (Int32.ofInt x)
def im_row (t : Nat) (f : Nat → Int) : (Nat → Int32) ⊕ (Nat → Int64) ⊕ (Nat → UInt32) ⊕ (Nat → UInt64) ⊕ (Nat → Option Nat) := if t = 1 then .inr (.inl (fun i => Int64.ofInt (f i))) else if t < 5 then .inl (fun i => Int32.ofInt (f i)) else .inr (.inr (.inr (.inr (fun i => if f i < 0 then none else some (f i).toNat))))
def im_cell (d : im_D) (a : Nat) (s : im_S) : va_E := match d with
  | (0, ci, tys) => .inr (ci, tys.mapIdx (fun f t => im_fv t (s.1 a f)))
  | (t + 1, n, _) => .inl (t, n, im_row t (s.2 a))
def im_ch (G : List im_D) (s : im_S) : rm_H := G.mapIdx (fun a d => im_cell d a s)
theorem im_ch_get (G : List im_D) (s : im_S) (a : Nat) : (im_ch G s)[a]? = (G[a]?).map (fun d => im_cell d a s) := by
  unfold im_ch
  rw [List.getElem?_mapIdx]
theorem im_ch_set {G : List im_D} {s s' : im_S} {a : Nat} {d : im_D} {c : va_E} (h : G[a]? = some d) (h1 : im_cell d a s' = c) (h2 : ∀ (b : Nat) (e : im_D), b ≠ a → im_cell e b s' = im_cell e b s) : (im_ch G s).set a c = im_ch G s' := by
  apply List.ext_getElem?
  intro b
  by_cases e : b = a
  · subst e
    have hl : b < (im_ch G s).length := by
      have := (List.getElem?_eq_some_iff.mp h).1
      unfold im_ch
      rw [List.length_mapIdx]
      exact this
    rw [List.getElem?_set_self hl, im_ch_get, h]
    exact congrArg some h1.symm
  · rw [List.getElem?_set_ne (Ne.symm e), im_ch_get, im_ch_get]
    cases G[b]? with
    | none => rfl
    | some d' => exact congrArg some (h2 b d' e).symm
def im_c (G : List im_D) (q : im_N) : rm_N := (q.1, im_cl q.2.1, q.2.2.1.map im_cv, im_ch G q.2.2.2, 0, 0)
def im_wf (q : im_N) : Prop := (∀ p ∈ q.2.1, im_ok p.2 = true) ∧ ∀ v ∈ q.2.2.1, im_ok v = true
theorem im_get_ok {lv : List (Nat × im_V)} {i : Nat} {v : im_V} (h : ∀ p ∈ lv, im_ok p.2 = true) (e : im_get lv i = some v) : im_ok v = true := by
  induction lv with
  | nil => cases e
  | cons q r ih =>
    unfold im_get at e
    split at e
    · cases e; exact h q List.mem_cons_self
    · exact ih (fun p hp => h p (List.mem_cons_of_mem _ hp)) e
theorem im_put1_ok {lv : List (Nat × im_V)} {i : Nat} {v : im_V} (h : ∀ p ∈ lv, im_ok p.2 = true) (e : im_ok v = true) : ∀ p ∈ im_put1 lv i v, im_ok p.2 = true := by
  intro p hp
  rcases List.mem_cons.mp hp with rfl | hp
  · exact e
  · exact h p (List.mem_filter.mp hp).1
theorem im_put2_ok {lv : List (Nat × im_V)} {i : Nat} {v : im_V} (h : ∀ p ∈ lv, im_ok p.2 = true) (e : im_ok v = true) : ∀ p ∈ im_put2 lv i v, im_ok p.2 = true := by
  intro p hp
  rcases List.mem_cons.mp hp with rfl | hp
  · exact e
  · exact h p (List.mem_filter.mp hp).1
/-- f does in whole numbers what g does -/
def im_sim (G : List im_D) (g : rm_N → Option rm_N) (f : im_N → Option im_N) : Prop := ∀ q r, im_wf q → f q = some r → g (im_c G q) = some (im_c G r) ∧ im_wf r
/-- a value in whole numbers -/
def im_ov : Value → im_V
  | .int x => (0, x.toInt)
  | .long x => (1, x.toInt)
  | .ref a => (2, a)
  | .retAddr n => (4, n)
  | _ => (3, 0)
def im_plain : Value → Bool
  | .int _ => true
  | .long _ => true
  | .retAddr _ => true
  | _ => false
theorem im_ov_cv {v : Value} (h : im_plain v = true) : im_cv (im_ov v) = v := by
  cases v <;> first | (cases h; done) | skip
  · simp [im_ov, im_cv]
  · simp [im_ov, im_cv]
  · simp [im_ov, im_cv]
theorem im_ov_ok {v : Value} (h : im_plain v = true) : im_ok (im_ov v) = true := by
  cases v <;> first | (cases h; done) | skip
  · exact im_of32 _
  · exact im_of64 _
  · simp [im_ov, im_ok]
section IMP
variable {G : List im_D}
theorem im_ok_tail {v : im_V} {r : List im_V} (h : ∀ w ∈ v :: r, im_ok w = true) : im_ok v = true ∧ ∀ w ∈ r, im_ok w = true := ⟨h v List.mem_cons_self, fun w hw => h w (List.mem_cons_of_mem _ hw)⟩
theorem im_ok_cons {v : im_V} {r : List im_V} (h : im_ok v = true) (h2 : ∀ w ∈ r, im_ok w = true) : ∀ w ∈ v :: r, im_ok w = true := by
  intro w hw
  rcases List.mem_cons.mp hw with rfl | hw
  · exact h
  · exact h2 w hw
def im_push (n : Nat) (v : im_V) (q : im_N) : Option im_N := some (q.1 + n, q.2.1, v :: q.2.2.1, q.2.2.2)
theorem im_push_s {n : Nat} {v : Value} (h : im_plain v = true) : im_sim G (rm_push n v) (im_push n (im_ov v)) := by
  intro q r hw hf
  cases hf
  refine ⟨?_, hw.1, im_ok_cons (im_ov_ok h) hw.2⟩
  simp [rm_push, im_c, im_ov_cv h]
def im_isI (v : im_V) : Bool := v.1 == 0
def im_isJ (v : im_V) : Bool := v.1 == 1
def im_isA (v : im_V) : Bool := v.1 == 2 || v.1 == 4
theorem im_isI_c {v : im_V} (h : im_isI v = true) : rm_isI (im_cv v) = true := by
  obtain ⟨t, x⟩ := v
  have h : t = 0 := by simpa [im_isI] using h
  subst h; rfl
theorem im_isJ_c {v : im_V} (h : im_isJ v = true) : rm_isJ (im_cv v) = true := by
  obtain ⟨t, x⟩ := v
  have h : t = 1 := by simpa [im_isJ] using h
  subst h; rfl
theorem im_isA_c {v : im_V} (h : im_isA v = true) : rm_isA (im_cv v) = true := by
  obtain ⟨t, x⟩ := v
  have h : t = 2 ∨ t = 4 := by simpa [im_isA] using h
  rcases h with rfl | rfl <;> rfl
def im_loadT (f : im_V → Bool) (n i : Nat) (q : im_N) : Option im_N := match im_get q.2.1 i with
  | some v => if f v then some (q.1 + n, q.2.1, v :: q.2.2.1, q.2.2.2) else none
  | none => none
theorem im_loadT_s {f : im_V → Bool} {g : Value → Bool} (hfg : ∀ v, f v = true → g (im_cv v) = true) {n i : Nat} : im_sim G (rm_loadT g n i) (im_loadT f n i) := by
  intro q r hw hf
  unfold im_loadT at hf
  split at hf
  · rename_i v hv
    split at hf
    · rename_i h
      cases hf
      refine ⟨?_, hw.1, im_ok_cons (im_get_ok hw.1 hv) hw.2⟩
      have e := im_get_c q.2.1 i
      rw [hv] at e
      simp only [rm_loadT, im_c]
      rw [e]
      simp [hfg v h]
    · cases hf
  · cases hf
def im_store1 (f : im_V → Bool) (nL n i : Nat) (q : im_N) : Option im_N := match q.2.2.1 with
  | v :: r => if f v && decide (i < nL) then some (q.1 + n, im_put1 q.2.1 i v, r, q.2.2.2) else none
  | _ => none
theorem im_store1_s {f : im_V → Bool} {g : Value → Bool} (hfg : ∀ v, f v = true → g (im_cv v) = true) {nL n i : Nat} : im_sim G (rm_store1 g nL n i) (im_store1 f nL n i) := by
  intro q r hw hf
  unfold im_store1 at hf
  split at hf
  · rename_i v st hst
    split at hf
    · rename_i h
      cases hf
      simp only [Bool.and_eq_true, decide_eq_true_eq] at h
      have hw2 := hw.2
      rw [hst] at hw2
      obtain ⟨h1, h2⟩ := im_ok_tail hw2
      refine ⟨?_, im_put1_ok hw.1 h1, h2⟩
      simp only [rm_store1, im_c, hst, List.map_cons]
      rw [hfg v h.1, im_put1_c]
      simp [h.2]
    · cases hf
  · cases hf
def im_store2 (nL n i : Nat) (q : im_N) : Option im_N := match q.2.2.1 with
  | (1, x) :: r => if i + 1 < nL then some (q.1 + n, im_put2 q.2.1 i (1, x), r, q.2.2.2) else none
  | _ => none
theorem im_store2_s {nL n i : Nat} : im_sim G (rm_store2 nL n i) (im_store2 nL n i) := by
  intro q r hw hf
  unfold im_store2 at hf
  split at hf
  · rename_i x st hst
    split at hf
    · rename_i h
      cases hf
      have hw2 := hw.2
      rw [hst] at hw2
      obtain ⟨h1, h2⟩ := im_ok_tail hw2
      refine ⟨?_, im_put2_ok hw.1 h1, h2⟩
      have e := im_put2_c q.2.1 i (1, x)
      simp only [rm_store2, im_c, hst, List.map_cons, im_cv]
      simp only [im_cv] at e
      rw [e]
      simp [h]
    · cases hf
  · cases hf
def im_iinc (nL i : Nat) (k : Int) (q : im_N) : Option im_N := match im_get q.2.1 i with
  | some (0, x) => if i < nL then some (q.1 + 3, im_put1 q.2.1 i (0, (Int32.ofInt x + Int32.ofInt k).toInt), q.2.2.1, q.2.2.2) else none
  | _ => none
theorem im_iinc_s {nL i : Nat} {k : Int} : im_sim G (rm_iinc nL i k) (im_iinc nL i k) := by
  intro q r hw hf
  unfold im_iinc at hf
  split at hf
  · rename_i x hx
    split at hf
    · rename_i h
      cases hf
      refine ⟨?_, im_put1_ok hw.1 (im_of32 _), hw.2⟩
      have e := im_get_c q.2.1 i
      rw [hx] at e
      have e2 := im_put1_c q.2.1 i (0, (Int32.ofInt x + Int32.ofInt k).toInt)
      simp only [im_cv, Int32.ofInt_toInt] at e2
      simp only [rm_iinc, im_c]
      rw [e]
      simp only [Option.map_some, im_cv]
      rw [e2]
      simp [h]
    · cases hf
  · cases hf
def im_ii (f : Int32 → Int32 → Int32) (q : im_N) : Option im_N := match q.2.2.1 with
  | (0, y) :: (0, x) :: r => some (q.1 + 1, q.2.1, (0, (f (Int32.ofInt x) (Int32.ofInt y)).toInt) :: r, q.2.2.2)
  | _ => none
theorem im_ii_s {f : Int32 → Int32 → Int32} : im_sim G (rm_ii f) (im_ii f) := by
  intro q r hw hf
  unfold im_ii at hf
  split at hf
  · rename_i y x st hst
    cases hf
    have hw2 := hw.2
    rw [hst] at hw2
    refine ⟨?_, hw.1, im_ok_cons (im_of32 _) (im_ok_tail (im_ok_tail hw2).2).2⟩
    simp [rm_ii, im_c, hst, im_cv]
  · cases hf
def im_iiz (f : Int32 → Int32 → Int32) (q : im_N) : Option im_N := match q.2.2.1 with
  | (0, y) :: (0, x) :: r => if y = 0 then none else some (q.1 + 1, q.2.1, (0, (f (Int32.ofInt x) (Int32.ofInt y)).toInt) :: r, q.2.2.2)
  | _ => none
theorem im_nz32 {y : Int} (h : im_iI y = true) (n : ¬ y = 0) : ¬ Int32.ofInt y = 0 := fun e => n (by rw [← im_to32 h, e]; rfl)
theorem im_nz64 {y : Int} (h : im_iJ y = true) (n : ¬ y = 0) : ¬ Int64.ofInt y = 0 := fun e => n (by rw [← im_to64 h, e]; rfl)
theorem im_iiz_s {f : Int32 → Int32 → Int32} : im_sim G (rm_iiz f) (im_iiz f) := by
  intro q r hw hf
  unfold im_iiz at hf
  split at hf
  · rename_i y x st hst
    split at hf
    · cases hf
    · rename_i hy
      cases hf
      have hw2 := hw.2
      rw [hst] at hw2
      refine ⟨?_, hw.1, im_ok_cons (im_of32 _) (im_ok_tail (im_ok_tail hw2).2).2⟩
      have z := im_nz32 (im_ok_tail hw2).1 hy
      simp [rm_iiz, im_c, hst, im_cv, z]
  · cases hf
def im_jji (f : Int64 → Int64 → Int32) (q : im_N) : Option im_N := match q.2.2.1 with
  | (1, y) :: (1, x) :: r => some (q.1 + 1, q.2.1, (0, (f (Int64.ofInt x) (Int64.ofInt y)).toInt) :: r, q.2.2.2)
  | _ => none
theorem im_jji_s {f : Int64 → Int64 → Int32} : im_sim G (rm_jji f) (im_jji f) := by
  intro q r hw hf
  unfold im_jji at hf
  split at hf
  · rename_i y x st hst
    cases hf
    have hw2 := hw.2
    rw [hst] at hw2
    refine ⟨?_, hw.1, im_ok_cons (im_of32 _) (im_ok_tail (im_ok_tail hw2).2).2⟩
    simp [rm_jji, im_c, hst, im_cv]
  · cases hf
def im_jj (f : Int64 → Int64 → Int64) (q : im_N) : Option im_N := match q.2.2.1 with
  | (1, y) :: (1, x) :: r => some (q.1 + 1, q.2.1, (1, (f (Int64.ofInt x) (Int64.ofInt y)).toInt) :: r, q.2.2.2)
  | _ => none
theorem im_jj_s {f : Int64 → Int64 → Int64} : im_sim G (rm_jj f) (im_jj f) := by
  intro q r hw hf
  unfold im_jj at hf
  split at hf
  · rename_i y x st hst
    cases hf
    have hw2 := hw.2
    rw [hst] at hw2
    refine ⟨?_, hw.1, im_ok_cons (im_of64 _) (im_ok_tail (im_ok_tail hw2).2).2⟩
    simp [rm_jj, im_c, hst, im_cv]
  · cases hf
def im_jjz (f : Int64 → Int64 → Int64) (q : im_N) : Option im_N := match q.2.2.1 with
  | (1, y) :: (1, x) :: r => if y = 0 then none else some (q.1 + 1, q.2.1, (1, (f (Int64.ofInt x) (Int64.ofInt y)).toInt) :: r, q.2.2.2)
  | _ => none
theorem im_jjz_s {f : Int64 → Int64 → Int64} : im_sim G (rm_jjz f) (im_jjz f) := by
  intro q r hw hf
  unfold im_jjz at hf
  split at hf
  · rename_i y x st hst
    split at hf
    · cases hf
    · rename_i hy
      cases hf
      have hw2 := hw.2
      rw [hst] at hw2
      refine ⟨?_, hw.1, im_ok_cons (im_of64 _) (im_ok_tail (im_ok_tail hw2).2).2⟩
      have z := im_nz64 (im_ok_tail hw2).1 hy
      simp [rm_jjz, im_c, hst, im_cv, z]
  · cases hf
def im_jij (f : Int64 → Int32 → Int64) (q : im_N) : Option im_N := match q.2.2.1 with
  | (0, y) :: (1, x) :: r => some (q.1 + 1, q.2.1, (1, (f (Int64.ofInt x) (Int32.ofInt y)).toInt) :: r, q.2.2.2)
  | _ => none
theorem im_jij_s {f : Int64 → Int32 → Int64} : im_sim G (rm_jij f) (im_jij f) := by
  intro q r hw hf
  unfold im_jij at hf
  split at hf
  · rename_i y x st hst
    cases hf
    have hw2 := hw.2
    rw [hst] at hw2
    refine ⟨?_, hw.1, im_ok_cons (im_of64 _) (im_ok_tail (im_ok_tail hw2).2).2⟩
    simp [rm_jij, im_c, hst, im_cv]
  · cases hf
def im_i1 (f : Int32 → Value) (q : im_N) : Option im_N := match q.2.2.1 with
  | (0, x) :: r => if im_plain (f (Int32.ofInt x)) then some (q.1 + 1, q.2.1, im_ov (f (Int32.ofInt x)) :: r, q.2.2.2) else none
  | _ => none
theorem im_i1_s {f : Int32 → Value} : im_sim G (rm_i1 f) (im_i1 f) := by
  intro q r hw hf
  unfold im_i1 at hf
  split at hf
  · rename_i x st hst
    split at hf
    · rename_i hp
      cases hf
      have hw2 := hw.2
      rw [hst] at hw2
      refine ⟨?_, hw.1, im_ok_cons (im_ov_ok hp) (im_ok_tail hw2).2⟩
      simp only [rm_i1, im_c, hst, List.map_cons]
      rw [im_ov_cv hp]
      rfl
    · cases hf
  · cases hf
def im_j1 (f : Int64 → Value) (q : im_N) : Option im_N := match q.2.2.1 with
  | (1, x) :: r => if im_plain (f (Int64.ofInt x)) then some (q.1 + 1, q.2.1, im_ov (f (Int64.ofInt x)) :: r, q.2.2.2) else none
  | _ => none
theorem im_j1_s {f : Int64 → Value} : im_sim G (rm_j1 f) (im_j1 f) := by
  intro q r hw hf
  unfold im_j1 at hf
  split at hf
  · rename_i x st hst
    split at hf
    · rename_i hp
      cases hf
      have hw2 := hw.2
      rw [hst] at hw2
      refine ⟨?_, hw.1, im_ok_cons (im_ov_ok hp) (im_ok_tail hw2).2⟩
      simp only [rm_j1, im_c, hst, List.map_cons]
      rw [im_ov_cv hp]
      rfl
    · cases hf
  · cases hf
def im_dup (q : im_N) : Option im_N := match q.2.2.1 with
  | v :: r => if v.1 ≠ 1 then some (q.1 + 1, q.2.1, v :: v :: r, q.2.2.2) else none
  | _ => none
theorem im_dup_s : im_sim G rm_dup im_dup := by
  intro q r hw hf
  unfold im_dup at hf
  split at hf
  · rename_i v st hst
    split at hf
    · rename_i hv
      cases hf
      have hw2 := hw.2
      rw [hst] at hw2
      refine ⟨?_, hw.1, im_ok_cons (im_ok_tail hw2).1 hw2⟩
      have z := im_cv_cat v
      rw [if_neg hv] at z
      simp [rm_dup, im_c, hst, z]
    · cases hf
  · cases hf
def im_dup2 (q : im_N) : Option im_N := match q.2.2.1 with
  | (1, x) :: r => some (q.1 + 1, q.2.1, (1, x) :: (1, x) :: r, q.2.2.2)
  | (0, x) :: (2, a) :: r => some (q.1 + 1, q.2.1, (0, x) :: (2, a) :: (0, x) :: (2, a) :: r, q.2.2.2)
  | _ => none
theorem im_dup2_s : im_sim G rm_dup2 im_dup2 := by
  intro q r hw hf
  unfold im_dup2 at hf
  split at hf
  · rename_i x st hst
    cases hf
    have hw2 := hw.2
    rw [hst] at hw2
    refine ⟨?_, hw.1, im_ok_cons (im_ok_tail hw2).1 hw2⟩
    simp [rm_dup2, im_c, hst, im_cv]
  · rename_i x a st hst
    cases hf
    have hw2 := hw.2
    rw [hst] at hw2
    refine ⟨?_, hw.1, im_ok_cons (im_ok_tail hw2).1 (im_ok_cons (im_ok_tail (im_ok_tail hw2).2).1 hw2)⟩
    simp [rm_dup2, im_c, hst, im_cv, Value.category]
  · cases hf
def im_pop (q : im_N) : Option im_N := match q.2.2.1 with
  | v :: r => if v.1 ≠ 1 then some (q.1 + 1, q.2.1, r, q.2.2.2) else none
  | _ => none
theorem im_pop_s : im_sim G rm_pop im_pop := by
  intro q r hw hf
  unfold im_pop at hf
  split at hf
  · rename_i v st hst
    split at hf
    · rename_i hv
      cases hf
      have hw2 := hw.2
      rw [hst] at hw2
      refine ⟨?_, hw.1, (im_ok_tail hw2).2⟩
      have z := im_cv_cat v
      rw [if_neg hv] at z
      simp [rm_pop, im_c, hst, z]
    · cases hf
  · cases hf
def im_pop2 (q : im_N) : Option im_N := match q.2.2.1 with
  | (1, _) :: r => some (q.1 + 1, q.2.1, r, q.2.2.2)
  | _ => none
theorem im_pop2_s : im_sim G rm_pop2 im_pop2 := by
  intro q r hw hf
  unfold im_pop2 at hf
  split at hf
  · rename_i x st hst
    cases hf
    have hw2 := hw.2
    rw [hst] at hw2
    refine ⟨?_, hw.1, (im_ok_tail hw2).2⟩
    simp [rm_pop2, im_c, hst, im_cv]
  · cases hf
def im_goto (off : Int) (q : im_N) : Option im_N := match rm_tgt q.1 off with
  | some g => some (g, q.2)
  | none => none
theorem im_goto_s {off : Int} : im_sim G (rm_goto off) (im_goto off) := by
  intro q r hw hf
  unfold im_goto at hf
  split at hf
  · rename_i g hg
    cases hf
    refine ⟨?_, hw⟩
    simp [rm_goto, im_c, hg]
  · cases hf
def im_cnd (c : ClassFile.Cond) (x y : Int) : Bool := match c with
  | .eq => decide (x = y)
  | .ne => decide (¬ x = y)
  | .lt => decide (x < y)
  | .ge => decide (y ≤ x)
  | .gt => decide (y < x)
  | .le => decide (x ≤ y)
theorem im_cnd_c {c : ClassFile.Cond} {x y : Int} (hx : im_iI x = true) (hy : im_iI y = true) : rm_cnd c (Int32.ofInt x) (Int32.ofInt y) = im_cnd c x y := by
  have e1 : (Int32.ofInt x = Int32.ofInt y) ↔ x = y := by
    rw [← Int32.toInt_inj, im_to32 hx, im_to32 hy]
  have e2 : (Int32.ofInt x < Int32.ofInt y) ↔ x < y := by
    rw [Int32.lt_iff_toInt_lt, im_to32 hx, im_to32 hy]
  have e3 : (Int32.ofInt x ≤ Int32.ofInt y) ↔ x ≤ y := by
    rw [Int32.le_iff_toInt_le, im_to32 hx, im_to32 hy]
  have e4 : (Int32.ofInt y < Int32.ofInt x) ↔ y < x := by
    rw [Int32.lt_iff_toInt_lt, im_to32 hx, im_to32 hy]
  have e5 : (Int32.ofInt y ≤ Int32.ofInt x) ↔ y ≤ x := by
    rw [Int32.le_iff_toInt_le, im_to32 hx, im_to32 hy]
  cases c
  · exact decide_eq_decide.mpr e1
  · exact decide_eq_decide.mpr (not_congr e1)
  · exact decide_eq_decide.mpr e2
  · exact decide_eq_decide.mpr e5
  · exact decide_eq_decide.mpr e4
  · exact decide_eq_decide.mpr e3
def im_if1 (c : ClassFile.Cond) (off : Int) (q : im_N) : Option im_N := match q.2.2.1, rm_tgt q.1 off with
  | (0, x) :: r, some g => some (if im_cnd c x 0 then g else q.1 + 3, q.2.1, r, q.2.2.2)
  | _, _ => none
theorem im_if1_s {c : ClassFile.Cond} {off : Int} : im_sim G (rm_if1 c off) (im_if1 c off) := by
  intro q r hw hf
  unfold im_if1 at hf
  split at hf
  · rename_i x st g hst hg
    cases hf
    have hw2 := hw.2
    rw [hst] at hw2
    refine ⟨?_, hw.1, (im_ok_tail hw2).2⟩
    have z := im_cnd_c (c := c) (x := x) (y := 0) (im_ok_tail hw2).1 (by decide)
    have z0 : Int32.ofInt 0 = 0 := by decide
    rw [z0] at z
    simp [rm_if1, im_c, hst, im_cv, hg, z]
  · cases hf
def im_if2 (c : ClassFile.Cond) (off : Int) (q : im_N) : Option im_N := match q.2.2.1, rm_tgt q.1 off with
  | (0, y) :: (0, x) :: r, some g => some (if im_cnd c x y then g else q.1 + 3, q.2.1, r, q.2.2.2)
  | _, _ => none
theorem im_if2_s {c : ClassFile.Cond} {off : Int} : im_sim G (rm_if2 c off) (im_if2 c off) := by
  intro q r hw hf
  unfold im_if2 at hf
  split at hf
  · rename_i y x st g hst hg
    cases hf
    have hw2 := hw.2
    rw [hst] at hw2
    refine ⟨?_, hw.1, (im_ok_tail (im_ok_tail hw2).2).2⟩
    have z := im_cnd_c (c := c) (x := x) (y := y) (im_ok_tail (im_ok_tail hw2).2).1 (im_ok_tail hw2).1
    simp [rm_if2, im_c, hst, im_cv, hg, z]
  · cases hf
def im_table (dflt lo hi : Int) (offs : List Int) (q : im_N) : Option im_N := match q.2.2.1 with
  | (0, x) :: r => if x < lo ∨ hi < x then (match rm_tgt q.1 dflt with
        | some g => some (g, q.2.1, r, q.2.2.2)
        | none => none) else (match offs[(x - lo).toNat]? with
        | some off => (match rm_tgt q.1 off with
          | some g => some (g, q.2.1, r, q.2.2.2)
          | none => none)
        | none => none)
  | _ => none
theorem im_table_s {dflt lo hi : Int} {offs : List Int} : im_sim G (rm_table dflt lo hi offs) (im_table dflt lo hi offs) := by
  intro q r hw hf
  unfold im_table at hf
  split at hf
  · rename_i x st hst
    have hw2 := hw.2
    rw [hst] at hw2
    have hx := im_to32 (im_ok_tail hw2).1
    split at hf
    · rename_i h
      split at hf
      · rename_i g hg
        cases hf
        refine ⟨?_, hw.1, (im_ok_tail hw2).2⟩
        simp only [rm_table, im_c, hst, List.map_cons, im_cv, hx]
        rw [if_pos h, hg]
      · cases hf
    · rename_i h
      split at hf
      · rename_i off ho
        split at hf
        · rename_i g hg
          cases hf
          refine ⟨?_, hw.1, (im_ok_tail hw2).2⟩
          simp only [rm_table, im_c, hst, List.map_cons, im_cv, hx]
          rw [if_neg h, ho]
          dsimp only
          rw [hg]
        · cases hf
      · cases hf
  · cases hf
end IMP
