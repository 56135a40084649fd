/-! MORE STEPS: what is twice a number; a switch; what a field holds -/
section IRN
variable {G : List im_D} {P : Nat → rm_M} {L : Nat} {ys : Nat → Int32} {d : Nat} {M : rm_M} {pc pc' : Nat} {lv lv' : List (Nat × im_V)} {st : List im_V} {s : im_S} {Q : im_Re → Prop}
theorem ir_mul2 {x : Int} (hf : rm_find M.1 pc = some (.imul, 1)) (hp : pc + 1 = pc') (h : ∀ z : Int, -2147483648 ≤ z → z ≤ 2147483646 → ir G P L ys d M (pc', lv, (0, z) :: st, s) Q) : ir G P L ys d M (pc, lv, (0, 2) :: (0, x) :: st, s) Q := by
  have b1 := (Int32.ofInt x * Int32.ofInt 2).le_toInt
  have b2 := (Int32.ofInt x * Int32.ofInt 2).toInt_lt
  have e : (Int32.ofInt x * Int32.ofInt 2).toInt % 2 = 0 := by
    rw [← Int32.ofInt_mul, Int32.toInt_ofInt]
    have z : ∀ y : Int, (y * 2).bmod Int32.size % 2 = 0 := by
      intro y
      rw [Int.bmod_def]
      show (if (y * 2) % 4294967296 < (4294967296 + 1) / 2 then (y * 2) % 4294967296 else (y * 2) % 4294967296 - 4294967296) % 2 = 0
      split <;> omega
    exact z x
  exact ir_ii (f := fun x y => x * y) hf rfl rfl hp rfl (h _ (by show -2147483648 ≤ (Int32.ofInt x * Int32.ofInt 2).toInt; omega) (by show (Int32.ofInt x * Int32.ofInt 2).toInt ≤ 2147483646; omega))
theorem ir_tab {dflt lo hi x : Int} {offs : Array Int} {n : Nat} {off : Int} (i : Nat) (hf : rm_find M.1 pc = some (.tableswitch dflt lo hi offs, n)) (hx : x = lo + i) (h1 : ¬ (lo + (i : Int) < lo ∨ hi < lo + (i : Int))) (ho : offs.toList[i]? = some off) (ht : rm_tgt pc off = some pc') (h : ir G P L ys d M (pc', lv, st, s) Q) : ir G P L ys d M (pc, lv, (0, x) :: st, s) Q := by
  subst hx
  refine ir_x hf rfl rfl (fun lv => ?_) h
  show (if lo + (i : Int) < lo ∨ hi < lo + (i : Int) then _ else (match offs.toList[(lo + (i : Int) - lo).toNat]? with
        | some off => (match rm_tgt pc off with
          | some g => some (g, lv, st, s)
          | none => none)
        | none => none)) = _
  rw [if_neg h1]
  have e : (lo + (i : Int) - lo).toNat = i := by omega
  rw [e, ho]
  show (match rm_tgt pc off with
          | some g => some (g, lv, st, s)
          | none => none) = _
  rw [ht]
theorem ir_tabD {dflt lo hi x : Int} {offs : Array Int} {n : Nat} (hf : rm_find M.1 pc = some (.tableswitch dflt lo hi offs, n)) (h1 : x < lo ∨ hi < x) (ht : rm_tgt pc dflt = some pc') (h : ir G P L ys d M (pc', lv, st, s) Q) : ir G P L ys d M (pc, lv, (0, x) :: st, s) Q := by
  refine ir_x hf rfl rfl (fun lv => ?_) h
  show (if x < lo ∨ hi < x then (match rm_tgt pc dflt with
        | some g => some (g, lv, st, s)
        | none => none) else _) = _
  rw [if_pos h1, ht]
theorem tI_i {a k f ci : Nat} {lo hi : Int} (hk : tfI k f ci = some (lo, hi)) (ha : gK[a]? = some k) (hT : tI s) : ∃ z, s.1 a f = z ∧ lo ≤ z ∧ z ≤ hi := by
  obtain ⟨tys, t, h1, h2, h3, h4, h5, h6, h7⟩ := tfI_ok hk
  have z := hT.1 a k ha f _ h3
  exact ⟨_, rfl, (tO_n h5).mp z⟩
end IRN
