/-! MORE STEPS: what is twice a number; a switch; what a field holds -/
section IRN
variable {G : List im_D} {P : Nat → rm_M} {L : Nat} {ys : Nat → Int32} {d : Nat} {M : rm_M} {pc pc' : Nat} {lv lv' : List (Nat × im_V)} {st : List im_V} {s : im_S} {Q : im_Re → Prop}
theorem ir_mul2 {x : Int} (hf : rm_find M.1 pc = some (.imul, 1)) (hp : pc + 1 = pc') (h : ∀ z : Int, -2147483648 ≤ z → z ≤ 2147483646 → ir G P L ys d M (pc', lv, (0, z) :: st, s) Q) : ir G P L ys d M (pc, lv, (0, 2) :: (0, x) :: st, s) Q := by
  have b1 := (Int32.ofInt x * Int32.ofInt 2).le_toInt
  have b2 := (Int32.ofInt x * Int32.ofInt 2).toInt_lt
  have e : (Int32.ofInt x * Int32.ofInt 2).toInt % 2 = 0 := by
    rw [← Int32.ofInt_mul, Int32.toInt_ofInt]
    have z : ∀ y : Int, (y * 2).bmod Int32.size % 2 = 0 := by
      intro y
      rw [Int.bmod_def]
      show (if (y * 2) % 4294967296 < (4294967296 + 1) / 2 then (y * 2) % 4294967296 else (y * 2) % 4294967296 - 4294967296) % 2 = 0
      split <;> omega
    exact z x
  exact ir_ii (f := fun x y => x * y) hf rfl rfl hp rfl (h _ (by show -2147483648 ≤ (Int32.ofInt x * Int32.ofInt 2).toInt; omega) (by show (Int32.ofInt x * Int32.ofInt 2).toInt ≤ 2147483646; omega))
theorem ir_tab {dflt lo hi x : Int} {offs : Array Int} {n : Nat} {off : Int} (i : Nat) (hf : rm_find M.1 pc = some (.tableswitch dflt lo hi offs, n)) (hx : x = lo + i) (h1 : ¬ (lo + (i : Int) < lo ∨ hi < lo + (i : Int))) (ho : offs.toList[i]? = some off) (ht : rm_tgt pc off = some pc') (h : ir G P L ys d M (pc', lv, st, s) Q) : ir G P L ys d M (pc, lv, (0, x) :: st, s) Q := by
  subst hx
  refine ir_x hf rfl rfl (fun lv => ?_) h
  show (if lo + (i : Int) < lo ∨ hi < lo + (i : Int) then _ else (match offs.toList[(lo + (i : Int) - lo).toNat]? with
        | some off => (match rm_tgt pc off with
          | some g => some (g, lv, st, s)
          | none => none)
        | none => none)) = _
  rw [if_neg h1]
  have e : (lo + (i : Int) - lo).toNat = i := by omega
  rw [e, ho]
  show (match rm_tgt pc off with
          | some g => some (g, lv, st, s)
          | none => none) = _
  rw [ht]
theorem ir_tabD {dflt lo hi x : Int} {offs : Array Int} {n : Nat} (hf : rm_find M.1 pc = some (.tableswitch dflt lo hi offs, n)) (h1 : x < lo ∨ hi < x) (ht : rm_tgt pc dflt = some pc') (h : ir G P L ys d M (pc', lv, st, s) Q) : ir G P L ys d M (pc, lv, (0, x) :: st, s) Q := by
  refine ir_x hf rfl rfl (fun lv => ?_) h
  show (if x < lo ∨ hi < x then (match rm_tgt pc dflt with
        | some g => some (g, lv, st, s)
        | none => none) else _) = _
  rw [if_pos h1, ht]
theorem tI_i {a k f ci : Nat} {lo hi : Int} (hk : tfI k f ci = some (lo, hi)) (ha : gK[a]? = some k) (hT : tI s) : ∃ z, s.1 a f = z ∧ lo ≤ z ∧ z ≤ hi := by
  obtain ⟨tys, t, h1, h2, h3, h4, h5, h6, h7⟩ := tfI_ok hk
  have z := hT.1 a k ha f _ h3
  exact ⟨_, rfl, (tO_n h5).mp z⟩
end IRN
section IRN2
variable {G : List im_D} {P : Nat → rm_M} {L : Nat} {ys : Nat → Int32} {d : Nat} {M : rm_M} {pc pc' : Nat} {lv lv' : List (Nat × im_V)} {st : List im_V} {s : im_S} {Q : im_Re → Prop}
theorem ir_i2cE {x : Int} (hf : rm_find M.1 pc = some (.i2c, 1)) (hp : pc + 1 = pc') (h0 : 0 ≤ x) (h1 : x ≤ 65535) (h : ir G P L ys d M (pc', lv, (0, x) :: st, s) Q) : ir G P L ys d M (pc, lv, (0, x) :: st, s) Q := by
  refine ir_i1A (f := fun x => (x.toUInt32 % 65536).toInt32) hf rfl rfl hp (fun z hz _ _ => ?_)
  have e := im_nar_char x (im_rng (by omega) (by omega)) (im_fit_of (lo := 0) (hi := 65535) (by decide) h0 h1)
  have e2 : ((Int32.ofInt x).toUInt32 % 65536).toInt32 = Int32.ofInt x := e
  rw [e2, im_bm (by omega) (by omega)] at hz
  subst hz
  exact h
theorem ir_i2bE {x : Int} (hf : rm_find M.1 pc = some (.i2b, 1)) (hp : pc + 1 = pc') (h0 : -128 ≤ x) (h1 : x ≤ 127) (h : ir G P L ys d M (pc', lv, (0, x) :: st, s) Q) : ir G P L ys d M (pc, lv, (0, x) :: st, s) Q := by
  refine ir_i1A (f := fun x => x.toInt8.toInt32) hf rfl rfl hp (fun z hz _ _ => ?_)
  have e := im_nar_byte x (im_rng (by omega) (by omega)) (im_fit_of (lo := -128) (hi := 127) (by decide) h0 h1)
  have e2 : (Int32.ofInt x).toInt8.toInt32 = Int32.ofInt x := e
  rw [e2, im_bm (by omega) (by omega)] at hz
  subst hz
  exact h
theorem ir_text0 {i : Int} (hf : rm_find M.1 pc = some (.baload, 1)) (hp : pc + 1 = pc') (i1 : 0 ≤ i) (i2 : i < 15) (h : ∀ z : Int, 38 ≤ z → z ≤ 126 → ir G P L ys d M (pc', lv, (0, z) :: st, s) Q) : ir G P L ys d M (pc, lv, (0, i) :: (4, 3) :: st, s) Q := by
  subst hp
  have key : ∀ k : Nat, k < 15 → 38 ≤ ((rm_sB.getD 0 []).getD k 0).toInt ∧ ((rm_sB.getD 0 []).getD k 0).toInt ≤ 126 := by decide +kernel
  obtain ⟨k1, k2⟩ := key i.toNat (by omega)
  refine ir_x hf rfl rfl (fun lv => ?_) (h _ k1 k2)
  have e : im_in i (rm_sN.getD 0 0) = true := im_in_of i1 (by show i < 15; exact i2)
  show (if im_in i (rm_sN.getD 0 0) = true then some (pc + 1, lv, (0, ((rm_sB.getD 0 []).getD i.toNat 0).toInt) :: st, s) else none) = _
  rw [e]
  rfl
theorem ir_text1 {i : Int} (hf : rm_find M.1 pc = some (.baload, 1)) (hp : pc + 1 = pc') (i1 : 0 ≤ i) (i2 : i < 3) (h : ∀ z : Int, 38 ≤ z → z ≤ 126 → ir G P L ys d M (pc', lv, (0, z) :: st, s) Q) : ir G P L ys d M (pc, lv, (0, i) :: (4, 5) :: st, s) Q := by
  subst hp
  have key : ∀ k : Nat, k < 3 → 38 ≤ ((rm_sB.getD 1 []).getD k 0).toInt ∧ ((rm_sB.getD 1 []).getD k 0).toInt ≤ 126 := by decide +kernel
  obtain ⟨k1, k2⟩ := key i.toNat (by omega)
  refine ir_x hf rfl rfl (fun lv => ?_) (h _ k1 k2)
  have e : im_in i (rm_sN.getD 1 0) = true := im_in_of i1 (by show i < 3; exact i2)
  show (if im_in i (rm_sN.getD 1 0) = true then some (pc + 1, lv, (0, ((rm_sB.getD 1 []).getD i.toNat 0).toInt) :: st, s) else none) = _
  rw [e]
  rfl
end IRN2
