/-! WHAT THE WALKS NAME, by program -/
theorem ic_startM {G : List im_D} {P : Nat → rm_M} {L : Nat} {ys : Nat → Int32} {d mi : Nat} {s : im_S} {Q : im_Re → Prop} {M : rm_M} {av : List im_V} (hM : P mi = M) (h1 : (lg_sl (av.map im_cv)).length ≤ M.2.2.1) (h2 : ir G P L ys d M (0, im_args 0 av, [], s) Q) : ic G P L ys (d + 1) mi av s Q := by
  subst hM
  exact ic_start h1 h2
theorem im_fit_of {t : Nat} {x lo hi : Int} (h : (t = 2 ∧ lo = 0 ∧ hi = 65535) ∨ (t = 3 ∧ lo = -128 ∧ hi = 127) ∨ (t = 4 ∧ lo = 0 ∧ hi = 1)) (h1 : lo ≤ x) (h2 : x ≤ hi) : im_fit t x = true := by
  rcases h with ⟨rfl, rfl, rfl⟩ | ⟨rfl, rfl, rfl⟩ | ⟨rfl, rfl, rfl⟩
  · unfold im_fit; simp; omega
  · unfold im_fit; simp; omega
  · unfold im_fit; simp; omega
theorem im_fitZ {ci f : Nat} {x : Int} (h : rm_ft ci f = .boolean) (hx : x = 0 ∨ x = 1) : rm_fit (rm_ft ci f) (im_cv (0, x)) = true := by
  rw [h]
  rcases hx with rfl | rfl <;> rfl
section TAB
variable {G : List im_D} {P : Nat → rm_M} {L : Nat} {ys : Nat → Int32} {d : Nat} {M : rm_M} {pc pc' : Nat} {lv lv' : List (Nat × im_V)} {st : List im_V} {s : im_S} {Q : im_Re → Prop}
theorem ir_i2bA {x : Int} (hf : rm_find M.1 pc = some (.i2b, 1)) (hp : pc + 1 = pc') (h : ∀ z : Int, -128 ≤ z → z ≤ 127 → ir G P L ys d M (pc', lv, (0, z) :: st, s) Q) : ir G P L ys d M (pc, lv, (0, x) :: st, s) Q := by
  refine ir_i1A (f := fun x => x.toInt8.toInt32) hf rfl rfl hp (fun z hz _ _ => h z ?_ ?_)
  · rw [hz, Int8.toInt_toInt32]; have := (Int32.ofInt x).toInt8.le_toInt; omega
  · rw [hz, Int8.toInt_toInt32]; have := (Int32.ofInt x).toInt8.toInt_lt; omega
theorem ir_i2cA {x : Int} (hf : rm_find M.1 pc = some (.i2c, 1)) (hp : pc + 1 = pc') (h : ∀ z : Int, 0 ≤ z → z ≤ 65535 → ir G P L ys d M (pc', lv, (0, z) :: st, s) Q) : ir G P L ys d M (pc, lv, (0, x) :: st, s) Q := by
  refine ir_i1A (f := fun x => (x.toUInt32 % 65536).toInt32) hf rfl rfl hp (fun z hz _ _ => ?_)
  have e : ((Int32.ofInt x).toUInt32 % 65536).toNat < 65536 := by
    rw [UInt32.toNat_mod]
    exact Nat.mod_lt _ (by decide)
  have e2 : z = (((Int32.ofInt x).toUInt32 % 65536).toNat : Int) := by
    rw [hz, ← Int32.toInt_toBitVec]
    exact BitVec.toInt_eq_toNat_of_lt (by show 2 * ((Int32.ofInt x).toUInt32 % 65536).toNat < _; omega)
  exact h z (by omega) (by omega)
theorem ir_prime {i : Int} (hf : rm_find M.1 pc = some (.iaload, 1)) (hp : pc + 1 = pc') (i1 : 0 ≤ i) (i2 : i < 44) (h : ∀ z : Int, 2147482693 ≤ z → z ≤ 2147483647 → ir G P L ys d M (pc', lv, (0, z) :: st, s) Q) : ir G P L ys d M (pc, lv, (0, i) :: (4, 6) :: st, s) Q := by
  subst hp
  have key : ∀ k : Nat, k < 44 → 2147482693 ≤ (rm_zV.getD k 0).toInt ∧ (rm_zV.getD k 0).toInt ≤ 2147483647 := by decide +kernel
  obtain ⟨k1, k2⟩ := key i.toNat (by omega)
  refine ir_x hf rfl rfl (fun lv => ?_) (h _ k1 k2)
  have e : im_in i rm_zN = true := im_in_of i1 (by show i < 44; exact i2)
  show (if im_in i rm_zN = true then some (pc + 1, lv, (0, (rm_zV.getD i.toNat 0).toInt) :: st, s) else none) = _
  rw [e]
  rfl
end TAB
theorem tf_0_0 : tfI 0 0 9 = some (0, 400) := by decide +kernel
theorem tf_0_1 : tfI 0 1 9 = some (0, 3) := by decide +kernel
theorem tf_0_2 : tfI 0 2 9 = some (-2, 400) := by decide +kernel
theorem tf_0_3 : tfI 0 3 9 = some (0, 1) := by decide +kernel
theorem tf_0_4 : tfR 0 4 9 = some 1 := by decide +kernel
theorem tf_0_5 : tfR 0 5 9 = some 2 := by decide +kernel
theorem tf_0_6 : tfR 0 6 9 = some 10 := by decide +kernel
theorem tf_0_7 : tfR 0 7 9 = some 11 := by decide +kernel
theorem tf_1_0 : tfR 1 0 4 = some 2 := by decide +kernel
theorem tf_1_1 : tfR 1 1 4 = some 10 := by decide +kernel
theorem tf_1_2 : tfR 1 2 4 = some 11 := by decide +kernel
theorem tf_1_3 : tfR 1 3 4 = some 27 := by decide +kernel
theorem tf_1_4 : tfI 1 4 4 = some (0, 80) := by decide +kernel
theorem tf_1_5 : tfR 1 5 4 = some 28 := by decide +kernel
theorem tf_1_6 : tfR 1 6 4 = some 29 := by decide +kernel
theorem tf_1_7 : tfI 1 7 4 = some (-2147483648, 2147483647) := by decide +kernel
theorem tf_1_8 : tfI 1 8 4 = some (-2147483648, 2147483647) := by decide +kernel
theorem tf_1_9 : tfI 1 9 4 = some (-2147483648, 2147483647) := by decide +kernel
theorem tf_1_10 : tfI 1 10 4 = some (-2147483648, 2147483647) := by decide +kernel
theorem tf_1_11 : tfR 1 11 4 = some 30 := by decide +kernel
theorem tf_1_12 : tfR 1 12 4 = some 31 := by decide +kernel
theorem tf_2_0 : tfR 2 0 7 = some 3 := by decide +kernel
theorem tf_2_1 : tfI 2 1 7 = some (0, 400) := by decide +kernel
theorem tf_2_2 : tfI 2 2 7 = some (0, 400) := by decide +kernel
theorem tf_2_3 : tfI 2 3 7 = some (0, 65535) := by decide +kernel
theorem tf_2_4 : tfI 2 4 7 = some (0, 3) := by decide +kernel
theorem tf_2_5 : tfI 2 5 7 = some (-2, 400) := by decide +kernel
theorem tf_2_6 : tfR 2 6 7 = some 5 := by decide +kernel
theorem tf_2_7 : tfR 2 7 7 = some 4 := by decide +kernel
theorem tf_2_8 : tfR 2 8 7 = some 6 := by decide +kernel
theorem tf_2_9 : tfR 2 9 7 = some 7 := by decide +kernel
theorem tf_2_10 : tfR 2 10 7 = some 8 := by decide +kernel
theorem tf_2_11 : tfI 2 11 7 = some (0, 10) := by decide +kernel
theorem tf_2_12 : tfR 2 12 7 = some 9 := by decide +kernel
theorem tf_2_13 : tfI 2 13 7 = some (0, 160) := by decide +kernel
theorem tf_4_0 : tfI 4 0 6 = some (-1, 8) := by decide +kernel
theorem tf_4_1 : tfR 4 1 6 = some 6 := by decide +kernel
theorem tf_10_0 : tfR 10 0 3 = some 11 := by decide +kernel
theorem tf_10_1 : tfR 10 1 3 = some 15 := by decide +kernel
theorem tf_10_2 : tfR 10 2 3 = some 24 := by decide +kernel
theorem tf_10_3 : tfI 10 3 3 = some (0, 80) := by decide +kernel
theorem tf_10_4 : tfR 10 4 3 = some 4 := by decide +kernel
theorem tf_10_5 : tfR 10 5 3 = some 21 := by decide +kernel
theorem tf_10_6 : tfR 10 6 3 = some 19 := by decide +kernel
theorem tf_10_7 : tfR 10 7 3 = some 19 := by decide +kernel
theorem tf_10_8 : tfR 10 8 3 = some 19 := by decide +kernel
theorem tf_10_9 : tfR 10 9 3 = some 19 := by decide +kernel
theorem tf_10_10 : tfR 10 10 3 = some 25 := by decide +kernel
theorem tf_10_11 : tfR 10 11 3 = some 25 := by decide +kernel
theorem tf_10_12 : tfR 10 12 3 = some 19 := by decide +kernel
theorem tf_10_13 : tfR 10 13 3 = some 25 := by decide +kernel
theorem tf_10_14 : tfR 10 14 3 = some 25 := by decide +kernel
theorem tf_10_15 : tfR 10 15 3 = some 25 := by decide +kernel
theorem tf_10_16 : tfR 10 16 3 = some 25 := by decide +kernel
theorem tf_11_0 : tfR 11 0 0 = some 12 := by decide +kernel
theorem tf_11_1 : tfR 11 1 0 = some 13 := by decide +kernel
theorem tf_11_2 : tfI 11 2 0 = some (0, 80) := by decide +kernel
theorem tf_11_3 : tfR 11 3 0 = some 14 := by decide +kernel
theorem tf_11_4 : tfR 11 4 0 = some 4 := by decide +kernel
theorem tf_11_5 : tfR 11 5 0 = some 4 := by decide +kernel
theorem tf_11_6 : tfR 11 6 0 = some 4 := by decide +kernel
theorem tf_11_7 : tfR 11 7 0 = some 4 := by decide +kernel
theorem tf_14_0 : tfR 14 0 2 = some 6 := by decide +kernel
theorem tf_14_1 : tfR 14 1 2 = some 6 := by decide +kernel
theorem tf_14_2 : tfR 14 2 2 = some 6 := by decide +kernel
theorem tf_14_3 : tfR 14 3 2 = some 6 := by decide +kernel
theorem tf_14_4 : tfR 14 4 2 = some 6 := by decide +kernel
theorem tf_14_5 : tfR 14 5 2 = some 4 := by decide +kernel
theorem tf_14_6 : tfR 14 6 2 = some 4 := by decide +kernel
theorem tf_14_7 : tfR 14 7 2 = some 4 := by decide +kernel
theorem tf_15_0 : tfR 15 0 5 = some 17 := by decide +kernel
theorem tf_15_1 : tfR 15 1 5 = some 17 := by decide +kernel
theorem tf_15_2 : tfR 15 2 5 = some 19 := by decide +kernel
theorem tf_15_3 : tfR 15 3 5 = some 21 := by decide +kernel
theorem tf_15_4 : tfI 15 4 5 = some (-1, 8) := by decide +kernel
theorem tf_15_5 : tfI 15 5 5 = some (-32, 256) := by decide +kernel
theorem tf_16_0 : tfR 16 0 1 = some 18 := by decide +kernel
theorem tf_16_1 : tfI 16 1 1 = some (0, 80) := by decide +kernel
theorem tf_16_2 : tfI 16 2 1 = some (-2147483648, 2147483647) := by decide +kernel
theorem tf_19_0 : tfR 19 0 1 = some 20 := by decide +kernel
theorem tf_19_1 : tfI 19 1 1 = some (0, 24) := by decide +kernel
theorem tf_19_2 : tfI 19 2 1 = some (-2147483648, 2147483647) := by decide +kernel
theorem tf_21_0 : tfR 21 0 1 = some 22 := by decide +kernel
theorem tf_21_1 : tfI 21 1 1 = some (0, 2) := by decide +kernel
theorem tf_21_2 : tfI 21 2 1 = some (-2147483648, 2147483647) := by decide +kernel
theorem tf_23_0 : tfI 23 0 8 = some (0, 79) := by decide +kernel
theorem tf_23_1 : tfI 23 1 8 = some (0, 1) := by decide +kernel
theorem tf_23_2 : tfJ 23 2 8 = some (-9223372036854775808, 9223372036854775807) := by decide +kernel
theorem tf_23_3 : tfJ 23 3 8 = some (0, 9223372036854775807) := by decide +kernel
theorem tf_23_4 : tfJ 23 4 8 = some (-9223372036854775808, 9223372036854775807) := by decide +kernel
theorem tf_23_5 : tfJ 23 5 8 = some (-9223372036854775808, 9223372036854775807) := by decide +kernel
theorem tf_23_6 : tfR 23 6 8 = some 19 := by decide +kernel
theorem tf_23_7 : tfI 23 7 8 = some (-2147483648, 2147483647) := by decide +kernel
theorem tf_23_8 : tfI 23 8 8 = some (-2147483648, 2147483646) := by decide +kernel
theorem tf_23_9 : tfI 23 9 8 = some (-2147483648, 2147483647) := by decide +kernel
theorem tf_25_0 : tfR 25 0 1 = some 26 := by decide +kernel
theorem tf_25_1 : tfI 25 1 1 = some (0, 196) := by decide +kernel
theorem tf_25_2 : tfI 25 2 1 = some (-2147483648, 2147483647) := by decide +kernel
theorem te_3 : teR 3 = some (2, 400, 0, 0, 65535) := by decide +kernel
theorem te_5 : teR 5 = some (5, 26, 3, ((4 : Nat) : Int), 0) := by decide +kernel
theorem te_6 : teR 6 = some (1, 9, 1, -9223372036854775808, 9223372036854775807) := by decide +kernel
theorem te_7 : teR 7 = some (5, 10, 3, ((4 : Nat) : Int), 0) := by decide +kernel
theorem te_8 : teR 8 = some (0, 10, 0, -1, 2) := by decide +kernel
theorem te_9 : teR 9 = some (0, 160, 0, -2147483648, 2147483647) := by decide +kernel
theorem te_12 : teR 12 = some (5, 80, 3, ((4 : Nat) : Int), 0) := by decide +kernel
theorem te_13 : teR 13 = some (0, 800, 0, -2147483648, 2147483647) := by decide +kernel
theorem te_17 : teR 17 = some (6, 9, 3, ((16 : Nat) : Int), 0) := by decide +kernel
theorem te_18 : teR 18 = some (0, 80, 0, -2147483648, 2147483647) := by decide +kernel
theorem te_20 : teR 20 = some (0, 24, 0, -2147483648, 2147483647) := by decide +kernel
theorem te_22 : teR 22 = some (0, 2, 0, -2147483648, 2147483647) := by decide +kernel
theorem te_24 : teR 24 = some (7, 80, 3, ((23 : Nat) : Int), 0) := by decide +kernel
theorem te_26 : teR 26 = some (0, 196, 0, -2147483648, 2147483647) := by decide +kernel
theorem te_27 : teR 27 = some (0, 80, 0, 0, 79) := by decide +kernel
theorem te_28 : teR 28 = some (3, 1610, 0, -128, 127) := by decide +kernel
theorem te_29 : teR 29 = some (4, 161, 0, 0, 1) := by decide +kernel
theorem te_30 : teR 30 = some (1, 161, 1, -9223372036854775808, 9223372036854775807) := by decide +kernel
theorem te_31 : teR 31 = some (0, 161, 0, -3, 2000) := by decide +kernel
def gU : List Nat := [0, 1, 2, 3, 1000, 4, 1000, 60, 81, 82, 83, 84, 85, 246, 247, 267, 1000, 1000, 1000, 1000, 1000, 1000, 1000, 1000, 310, 1000, 1000, 577, 578, 579, 580, 581]
set_option maxRecDepth 100000 in
theorem tsg_all : (List.range 582).all (fun b => match gK[b]? with
  | some k => (match gU[k]? with
    | some u => u == 1000 || u == b
    | none => true)
  | none => true) = true := by decide +kernel
theorem tsg_of {b k u : Nat} (h : gK[b]? = some k) (hu : gU[k]? = some u) (hn : u ≠ 1000) : b = u := by
  have z := List.all_eq_true.mp tsg_all b (List.mem_range.mpr (gK_lt h))
  rw [h] at z
  dsimp only at z
  rw [hu] at z
  simp only [Bool.or_eq_true, beq_iff_eq] at z
  rcases z with z | z
  · exact absurd z hn
  · exact z.symm
theorem tsg_0 {b : Nat} (h : gK[b]? = some 0) : b = 0 := tsg_of h rfl (by decide)
theorem tsk_0 : gK[0]? = some 0 := by decide +kernel
theorem tsg_1 {b : Nat} (h : gK[b]? = some 1) : b = 1 := tsg_of h rfl (by decide)
theorem tsk_1 : gK[1]? = some 1 := by decide +kernel
theorem tsg_2 {b : Nat} (h : gK[b]? = some 2) : b = 2 := tsg_of h rfl (by decide)
theorem tsk_2 : gK[2]? = some 2 := by decide +kernel
theorem tsg_3 {b : Nat} (h : gK[b]? = some 3) : b = 3 := tsg_of h rfl (by decide)
theorem tsk_3 : gK[3]? = some 3 := by decide +kernel
theorem tsg_5 {b : Nat} (h : gK[b]? = some 5) : b = 4 := tsg_of h rfl (by decide)
theorem tsk_5 : gK[4]? = some 5 := by decide +kernel
theorem tsg_7 {b : Nat} (h : gK[b]? = some 7) : b = 60 := tsg_of h rfl (by decide)
theorem tsk_7 : gK[60]? = some 7 := by decide +kernel
theorem tsg_8 {b : Nat} (h : gK[b]? = some 8) : b = 81 := tsg_of h rfl (by decide)
theorem tsk_8 : gK[81]? = some 8 := by decide +kernel
theorem tsg_9 {b : Nat} (h : gK[b]? = some 9) : b = 82 := tsg_of h rfl (by decide)
theorem tsk_9 : gK[82]? = some 9 := by decide +kernel
theorem tsg_10 {b : Nat} (h : gK[b]? = some 10) : b = 83 := tsg_of h rfl (by decide)
theorem tsk_10 : gK[83]? = some 10 := by decide +kernel
theorem tsg_11 {b : Nat} (h : gK[b]? = some 11) : b = 84 := tsg_of h rfl (by decide)
theorem tsk_11 : gK[84]? = some 11 := by decide +kernel
theorem tsg_12 {b : Nat} (h : gK[b]? = some 12) : b = 85 := tsg_of h rfl (by decide)
theorem tsk_12 : gK[85]? = some 12 := by decide +kernel
theorem tsg_13 {b : Nat} (h : gK[b]? = some 13) : b = 246 := tsg_of h rfl (by decide)
theorem tsk_13 : gK[246]? = some 13 := by decide +kernel
theorem tsg_14 {b : Nat} (h : gK[b]? = some 14) : b = 247 := tsg_of h rfl (by decide)
theorem tsk_14 : gK[247]? = some 14 := by decide +kernel
theorem tsg_15 {b : Nat} (h : gK[b]? = some 15) : b = 267 := tsg_of h rfl (by decide)
theorem tsk_15 : gK[267]? = some 15 := by decide +kernel
theorem tsg_24 {b : Nat} (h : gK[b]? = some 24) : b = 310 := tsg_of h rfl (by decide)
theorem tsk_24 : gK[310]? = some 24 := by decide +kernel
theorem tsg_27 {b : Nat} (h : gK[b]? = some 27) : b = 577 := tsg_of h rfl (by decide)
theorem tsk_27 : gK[577]? = some 27 := by decide +kernel
theorem tsg_28 {b : Nat} (h : gK[b]? = some 28) : b = 578 := tsg_of h rfl (by decide)
theorem tsk_28 : gK[578]? = some 28 := by decide +kernel
theorem tsg_29 {b : Nat} (h : gK[b]? = some 29) : b = 579 := tsg_of h rfl (by decide)
theorem tsk_29 : gK[579]? = some 29 := by decide +kernel
theorem tsg_30 {b : Nat} (h : gK[b]? = some 30) : b = 580 := tsg_of h rfl (by decide)
theorem tsk_30 : gK[580]? = some 30 := by decide +kernel
theorem tsg_31 {b : Nat} (h : gK[b]? = some 31) : b = 581 := tsg_of h rfl (by decide)
theorem tsk_31 : gK[581]? = some 31 := by decide +kernel
