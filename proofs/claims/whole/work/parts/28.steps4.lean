/-! MORE STEPS: branches, masks, shifts, quotients, calls by what they answer -/
section IRM
variable {G : List im_D} {P : Nat → rm_M} {L : Nat} {ys : Nat → Int32} {d : Nat} {M : rm_M} {pc pc' : Nat} {lv lv' : List (Nat × im_V)} {st : List im_V} {s : im_S} {Q : im_Re → Prop}
theorem ir_z_eq {off x : Int} {pt : Nat} (hf : rm_find M.1 pc = some (.ifCond .eq off, 3)) (ht : rm_tgt pc off = some pt) (hp : pc + 3 = pc') (h1 : x = 0 → ir G P L ys d M (pt, lv, st, s) Q) (h2 : ¬ (x = 0) → ir G P L ys d M (pc', lv, st, s) Q) : ir G P L ys d M (pc, lv, (0, x) :: st, s) Q :=
  ir_if1 hf ht hp (fun z => h1 (of_decide_eq_true z)) (fun z => h2 (of_decide_eq_false z))
theorem ir_c_eq {off x y : Int} {pt : Nat} (hf : rm_find M.1 pc = some (.if_icmp .eq off, 3)) (ht : rm_tgt pc off = some pt) (hp : pc + 3 = pc') (h1 : x = y → ir G P L ys d M (pt, lv, st, s) Q) (h2 : ¬ (x = y) → ir G P L ys d M (pc', lv, st, s) Q) : ir G P L ys d M (pc, lv, (0, y) :: (0, x) :: st, s) Q :=
  ir_if2 hf ht hp (fun z => h1 (of_decide_eq_true z)) (fun z => h2 (of_decide_eq_false z))
theorem ir_z_ne {off x : Int} {pt : Nat} (hf : rm_find M.1 pc = some (.ifCond .ne off, 3)) (ht : rm_tgt pc off = some pt) (hp : pc + 3 = pc') (h1 : ¬ x = 0 → ir G P L ys d M (pt, lv, st, s) Q) (h2 : x = 0 → ir G P L ys d M (pc', lv, st, s) Q) : ir G P L ys d M (pc, lv, (0, x) :: st, s) Q :=
  ir_if1 hf ht hp (fun z => h1 (of_decide_eq_true z)) (fun z => h2 (Decidable.not_not.mp (of_decide_eq_false z)))
theorem ir_c_ne {off x y : Int} {pt : Nat} (hf : rm_find M.1 pc = some (.if_icmp .ne off, 3)) (ht : rm_tgt pc off = some pt) (hp : pc + 3 = pc') (h1 : ¬ x = y → ir G P L ys d M (pt, lv, st, s) Q) (h2 : x = y → ir G P L ys d M (pc', lv, st, s) Q) : ir G P L ys d M (pc, lv, (0, y) :: (0, x) :: st, s) Q :=
  ir_if2 hf ht hp (fun z => h1 (of_decide_eq_true z)) (fun z => h2 (Decidable.not_not.mp (of_decide_eq_false z)))
theorem ir_z_lt {off x : Int} {pt : Nat} (hf : rm_find M.1 pc = some (.ifCond .lt off, 3)) (ht : rm_tgt pc off = some pt) (hp : pc + 3 = pc') (h1 : x < 0 → ir G P L ys d M (pt, lv, st, s) Q) (h2 : ¬ (x < 0) → ir G P L ys d M (pc', lv, st, s) Q) : ir G P L ys d M (pc, lv, (0, x) :: st, s) Q :=
  ir_if1 hf ht hp (fun z => h1 (of_decide_eq_true z)) (fun z => h2 (of_decide_eq_false z))
theorem ir_c_lt {off x y : Int} {pt : Nat} (hf : rm_find M.1 pc = some (.if_icmp .lt off, 3)) (ht : rm_tgt pc off = some pt) (hp : pc + 3 = pc') (h1 : x < y → ir G P L ys d M (pt, lv, st, s) Q) (h2 : ¬ (x < y) → ir G P L ys d M (pc', lv, st, s) Q) : ir G P L ys d M (pc, lv, (0, y) :: (0, x) :: st, s) Q :=
  ir_if2 hf ht hp (fun z => h1 (of_decide_eq_true z)) (fun z => h2 (of_decide_eq_false z))
theorem ir_z_ge {off x : Int} {pt : Nat} (hf : rm_find M.1 pc = some (.ifCond .ge off, 3)) (ht : rm_tgt pc off = some pt) (hp : pc + 3 = pc') (h1 : 0 ≤ x → ir G P L ys d M (pt, lv, st, s) Q) (h2 : ¬ (0 ≤ x) → ir G P L ys d M (pc', lv, st, s) Q) : ir G P L ys d M (pc, lv, (0, x) :: st, s) Q :=
  ir_if1 hf ht hp (fun z => h1 (of_decide_eq_true z)) (fun z => h2 (of_decide_eq_false z))
theorem ir_c_ge {off x y : Int} {pt : Nat} (hf : rm_find M.1 pc = some (.if_icmp .ge off, 3)) (ht : rm_tgt pc off = some pt) (hp : pc + 3 = pc') (h1 : y ≤ x → ir G P L ys d M (pt, lv, st, s) Q) (h2 : ¬ (y ≤ x) → ir G P L ys d M (pc', lv, st, s) Q) : ir G P L ys d M (pc, lv, (0, y) :: (0, x) :: st, s) Q :=
  ir_if2 hf ht hp (fun z => h1 (of_decide_eq_true z)) (fun z => h2 (of_decide_eq_false z))
theorem ir_z_gt {off x : Int} {pt : Nat} (hf : rm_find M.1 pc = some (.ifCond .gt off, 3)) (ht : rm_tgt pc off = some pt) (hp : pc + 3 = pc') (h1 : 0 < x → ir G P L ys d M (pt, lv, st, s) Q) (h2 : ¬ (0 < x) → ir G P L ys d M (pc', lv, st, s) Q) : ir G P L ys d M (pc, lv, (0, x) :: st, s) Q :=
  ir_if1 hf ht hp (fun z => h1 (of_decide_eq_true z)) (fun z => h2 (of_decide_eq_false z))
theorem ir_c_gt {off x y : Int} {pt : Nat} (hf : rm_find M.1 pc = some (.if_icmp .gt off, 3)) (ht : rm_tgt pc off = some pt) (hp : pc + 3 = pc') (h1 : y < x → ir G P L ys d M (pt, lv, st, s) Q) (h2 : ¬ (y < x) → ir G P L ys d M (pc', lv, st, s) Q) : ir G P L ys d M (pc, lv, (0, y) :: (0, x) :: st, s) Q :=
  ir_if2 hf ht hp (fun z => h1 (of_decide_eq_true z)) (fun z => h2 (of_decide_eq_false z))
theorem ir_z_le {off x : Int} {pt : Nat} (hf : rm_find M.1 pc = some (.ifCond .le off, 3)) (ht : rm_tgt pc off = some pt) (hp : pc + 3 = pc') (h1 : x ≤ 0 → ir G P L ys d M (pt, lv, st, s) Q) (h2 : ¬ (x ≤ 0) → ir G P L ys d M (pc', lv, st, s) Q) : ir G P L ys d M (pc, lv, (0, x) :: st, s) Q :=
  ir_if1 hf ht hp (fun z => h1 (of_decide_eq_true z)) (fun z => h2 (of_decide_eq_false z))
theorem ir_c_le {off x y : Int} {pt : Nat} (hf : rm_find M.1 pc = some (.if_icmp .le off, 3)) (ht : rm_tgt pc off = some pt) (hp : pc + 3 = pc') (h1 : x ≤ y → ir G P L ys d M (pt, lv, st, s) Q) (h2 : ¬ (x ≤ y) → ir G P L ys d M (pc', lv, st, s) Q) : ir G P L ys d M (pc, lv, (0, y) :: (0, x) :: st, s) Q :=
  ir_if2 hf ht hp (fun z => h1 (of_decide_eq_true z)) (fun z => h2 (of_decide_eq_false z))
theorem im_and32 {x y : Int} (h0 : 0 ≤ y) (h1 : y ≤ 2147483647) : 0 ≤ (Int32.ofInt x &&& Int32.ofInt y).toInt ∧ (Int32.ofInt x &&& Int32.ofInt y).toInt ≤ y := by
  obtain ⟨n, rfl⟩ := Int.eq_ofNat_of_zero_le h0
  have hn : n < 2147483648 := by omega
  have e1 : (Int32.ofInt (n : Int)).toBitVec.toNat = n := by
    show (BitVec.ofInt 32 (n : Int)).toNat = n
    rw [BitVec.toNat_ofInt]
    omega
  have e2 : (Int32.ofInt x &&& Int32.ofInt (n : Int)).toBitVec.toNat ≤ n := by
    show ((Int32.ofInt x).toBitVec &&& (Int32.ofInt (n : Int)).toBitVec).toNat ≤ n
    rw [BitVec.toNat_and, e1]
    exact Nat.and_le_right
  have e3 : (Int32.ofInt x &&& Int32.ofInt (n : Int)).toInt = ((Int32.ofInt x &&& Int32.ofInt (n : Int)).toBitVec.toNat : Int) := by
    rw [← Int32.toInt_toBitVec]
    exact BitVec.toInt_eq_toNat_of_lt (by omega)
  rw [e3]
  omega
theorem im_and64 {x y : Int} (h0 : 0 ≤ y) (h1 : y ≤ 9223372036854775807) : 0 ≤ (Int64.ofInt x &&& Int64.ofInt y).toInt ∧ (Int64.ofInt x &&& Int64.ofInt y).toInt ≤ y := by
  obtain ⟨n, rfl⟩ := Int.eq_ofNat_of_zero_le h0
  have hn : n < 9223372036854775808 := by omega
  have e1 : (Int64.ofInt (n : Int)).toBitVec.toNat = n := by
    show (BitVec.ofInt 64 (n : Int)).toNat = n
    rw [BitVec.toNat_ofInt]
    omega
  have e2 : (Int64.ofInt x &&& Int64.ofInt (n : Int)).toBitVec.toNat ≤ n := by
    show ((Int64.ofInt x).toBitVec &&& (Int64.ofInt (n : Int)).toBitVec).toNat ≤ n
    rw [BitVec.toNat_and, e1]
    exact Nat.and_le_right
  have e3 : (Int64.ofInt x &&& Int64.ofInt (n : Int)).toInt = ((Int64.ofInt x &&& Int64.ofInt (n : Int)).toBitVec.toNat : Int) := by
    rw [← Int64.toInt_toBitVec]
    exact BitVec.toInt_eq_toNat_of_lt (by omega)
  rw [e3]
  omega
theorem ir_andm {x y : Int} (hf : rm_find M.1 pc = some (.iand, 1)) (hp : pc + 1 = pc') (h0 : 0 ≤ y) (h1 : y ≤ 2147483647) (h : ∀ z : Int, 0 ≤ z → z ≤ y → ir G P L ys d M (pc', lv, (0, z) :: st, s) Q) : ir G P L ys d M (pc, lv, (0, y) :: (0, x) :: st, s) Q :=
  ir_ii hf rfl rfl hp rfl (h _ (im_and32 h0 h1).1 (im_and32 h0 h1).2)
theorem ir_landm {x y : Int} (hf : rm_find M.1 pc = some (.land, 1)) (hp : pc + 1 = pc') (h0 : 0 ≤ y) (h1 : y ≤ 9223372036854775807) (h : ∀ z : Int, 0 ≤ z → z ≤ y → ir G P L ys d M (pc', lv, (1, z) :: st, s) Q) : ir G P L ys d M (pc, lv, (1, y) :: (1, x) :: st, s) Q :=
  ir_jj hf rfl rfl hp rfl (h _ (im_and64 h0 h1).1 (im_and64 h0 h1).2)
theorem im_shr32 {x : Int} {y k : Nat} (hx : im_iI x = true) (hy : ((Int32.ofInt (y : Int)) &&& 31).toBitVec.smod 32 = BitVec.ofNat 32 k) (hk : k < 32) : (Int32.ofInt x >>> (Int32.ofInt (y : Int) &&& 31)).toInt = x / 2 ^ k := by
  rw [← Int32.toInt_toBitVec]
  show ((Int32.ofInt x).toBitVec.sshiftRight' (((Int32.ofInt (y : Int)) &&& 31).toBitVec.smod 32)).toInt = _
  rw [hy, BitVec.toInt_sshiftRight']
  have e : (BitVec.ofNat 32 k).toNat = k := by
    rw [BitVec.toNat_ofNat]
    exact Nat.mod_eq_of_lt (by omega)
  rw [e, Int32.toInt_toBitVec, im_to32 hx, Int.shiftRight_eq_div_pow]
  norm_cast
/-- a shift down by a number that stands in the text -/
theorem ir_shr {x : Int} {y k : Nat} {m : Int} (hf : rm_find M.1 pc = some (.ishr, 1)) (hp : pc + 1 = pc') (hy : ((Int32.ofInt (y : Int)) &&& 31).toBitVec.smod 32 = BitVec.ofNat 32 k) (hk : decide (k < 32) = true) (hm : (2 : Int) ^ k = m) (h1 : -2147483648 ≤ x) (h2 : x ≤ 2147483647) (h : ir G P L ys d M (pc', lv, (0, x / m) :: st, s) Q) : ir G P L ys d M (pc, lv, (0, (y : Int)) :: (0, x) :: st, s) Q :=
  ir_ii hf rfl rfl hp (by rw [← hm]; exact im_shr32 (im_rng h1 h2) hy (of_decide_eq_true hk)) h
theorem im_shr64 {x : Int} {y k : Nat} (hx : im_iJ x = true) (hy : ((Int32.ofInt (y : Int)).toInt64 &&& 63).toBitVec.smod 64 = BitVec.ofNat 64 k) (hk : k < 64) : (Int64.ofInt x >>> ((Int32.ofInt (y : Int)).toInt64 &&& 63)).toInt = x / 2 ^ k := by
  rw [← Int64.toInt_toBitVec]
  show ((Int64.ofInt x).toBitVec.sshiftRight' (((Int32.ofInt (y : Int)).toInt64 &&& 63).toBitVec.smod 64)).toInt = _
  rw [hy, BitVec.toInt_sshiftRight']
  have e : (BitVec.ofNat 64 k).toNat = k := by
    rw [BitVec.toNat_ofNat]
    exact Nat.mod_eq_of_lt (by omega)
  rw [e, Int64.toInt_toBitVec, im_to64 hx, Int.shiftRight_eq_div_pow]
  norm_cast
theorem ir_lshr {x : Int} {y k : Nat} {m : Int} (hf : rm_find M.1 pc = some (.lshr, 1)) (hp : pc + 1 = pc') (hy : ((Int32.ofInt (y : Int)).toInt64 &&& 63).toBitVec.smod 64 = BitVec.ofNat 64 k) (hk : decide (k < 64) = true) (hm : (2 : Int) ^ k = m) (h1 : -9223372036854775808 ≤ x) (h2 : x ≤ 9223372036854775807) (h : ir G P L ys d M (pc', lv, (1, x / m) :: st, s) Q) : ir G P L ys d M (pc, lv, (0, (y : Int)) :: (1, x) :: st, s) Q :=
  ir_jij hf rfl rfl hp (by rw [← hm]; exact im_shr64 (im_rngJ h1 h2) hy (of_decide_eq_true hk)) h
theorem ir_divN {x y : Int} (hf : rm_find M.1 pc = some (.idiv, 1)) (hp : pc + 1 = pc') (hx1 : 0 ≤ x) (hx2 : x ≤ 2147483647) (hy : 0 < y) (hy2 : y ≤ 2147483647) (h : ir G P L ys d M (pc', lv, (0, x / y) :: st, s) Q) : ir G P L ys d M (pc, lv, (0, y) :: (0, x) :: st, s) Q :=
  ir_div hf hp (by omega) hx2 hy hy2 (by rw [Int.tdiv_eq_ediv_of_nonneg hx1]; exact h)
theorem ir_remN {x y : Int} (hf : rm_find M.1 pc = some (.irem, 1)) (hp : pc + 1 = pc') (hx1 : 0 ≤ x) (hx2 : x ≤ 2147483647) (hy : 0 < y) (hy2 : y ≤ 2147483647) (h : ir G P L ys d M (pc', lv, (0, x % y) :: st, s) Q) : ir G P L ys d M (pc, lv, (0, y) :: (0, x) :: st, s) Q :=
  ir_rem hf hp (by omega) hx2 hy hy2 (by rw [Int.tmod_eq_emod_of_nonneg hx1]; exact h)
theorem ir_remA {x y : Int} (hf : rm_find M.1 pc = some (.irem, 1)) (hp : pc + 1 = pc') (hx1 : -2147483648 ≤ x) (hx2 : x ≤ 2147483647) (hy : 0 < y) (hy2 : y ≤ 2147483647) (h : ∀ z, -y < z → z < y → ir G P L ys d M (pc', lv, (0, z) :: st, s) Q) : ir G P L ys d M (pc, lv, (0, y) :: (0, x) :: st, s) Q :=
  ir_rem hf hp hx1 hx2 hy hy2 (h _ (by have := Int.lt_tmod_of_pos x hy; omega) (Int.tmod_lt_of_pos x hy))
-- calls
def icV (G : List im_D) (P : Nat → rm_M) (L : Nat) (ys : Nat → Int32) (d mi : Nat) (av : List im_V) (s : im_S) (R : im_S → Prop) : Prop := ic G P L ys d mi av s (fun r => r.1 = none ∧ R r.2)
def icI (G : List im_D) (P : Nat → rm_M) (L : Nat) (ys : Nat → Int32) (t d mi : Nat) (av : List im_V) (s : im_S) (R : Int → im_S → Prop) : Prop := ic G P L ys d mi av s (fun r => ∃ z, r.1 = some (t, z) ∧ R z r.2)
def icR (G : List im_D) (P : Nat → rm_M) (L : Nat) (ys : Nat → Int32) (d mi : Nat) (av : List im_V) (s : im_S) (R : Nat → im_S → Prop) : Prop := ic G P L ys d mi av s (fun r => ∃ b : Nat, r.1 = some (2, (b : Int)) ∧ R b r.2)
theorem ir_cSV {idx mi na : Nat} {av rest st0 : List im_V} {R : im_S → Prop} (hf : rm_find M.1 pc = some (.invokestatic idx, 3)) (hl : rm_lk M.2.1 idx = some (3, mi, na, 0)) (hp : pc + 3 = pc') (e1 : st0.drop na = rest) (e2 : (st0.take na).reverse = av) (hn : decide (na ≤ st0.length) = true) (hs : im_cs rest ≤ 8) (hc : icV G P L ys d mi av s R) (h : ∀ s', R s' → ir G P L ys d M (pc', lv, rest, s') Q) : ir G P L ys d M (pc, lv, st0, s) Q :=
  ir_callS hf hl hp e1 e2 hn hs hc (fun res hr => by
    obtain ⟨v, s'⟩ := res
    obtain ⟨h1, h2⟩ := hr
    have h1 : v = none := h1
    subst h1
    exact h s' h2)
theorem ir_cSI {idx mi na : Nat} {av rest st0 : List im_V} {t : Nat} {R : Int → im_S → Prop} (hf : rm_find M.1 pc = some (.invokestatic idx, 3)) (hl : rm_lk M.2.1 idx = some (3, mi, na, 0)) (hp : pc + 3 = pc') (e1 : st0.drop na = rest) (e2 : (st0.take na).reverse = av) (hn : decide (na ≤ st0.length) = true) (hs : im_cs rest ≤ 8) (hc : icI G P L ys t d mi av s R) (h : ∀ z s', R z s' → ir G P L ys d M (pc', lv, (t, z) :: rest, s') Q) : ir G P L ys d M (pc, lv, st0, s) Q :=
  ir_callS hf hl hp e1 e2 hn hs hc (fun res hr => by
    obtain ⟨v, s'⟩ := res
    obtain ⟨z, h1, h2⟩ := hr
    have h1 : v = some (t, z) := h1
    subst h1
    exact h z s' h2)
theorem ir_cSR {idx mi na : Nat} {av rest st0 : List im_V} {R : Nat → im_S → Prop} (hf : rm_find M.1 pc = some (.invokestatic idx, 3)) (hl : rm_lk M.2.1 idx = some (3, mi, na, 0)) (hp : pc + 3 = pc') (e1 : st0.drop na = rest) (e2 : (st0.take na).reverse = av) (hn : decide (na ≤ st0.length) = true) (hs : im_cs rest ≤ 8) (hc : icR G P L ys d mi av s R) (h : ∀ b s', R b s' → ir G P L ys d M (pc', lv, (2, (b : Int)) :: rest, s') Q) : ir G P L ys d M (pc, lv, st0, s) Q :=
  ir_callS hf hl hp e1 e2 hn hs hc (fun res hr => by
    obtain ⟨v, s'⟩ := res
    obtain ⟨b, h1, h2⟩ := hr
    have h1 : v = some (2, (b : Int)) := h1
    subst h1
    exact h b s' h2)
theorem ir_cVV {idx mi na oc a : Nat} {av rest st0 : List im_V} {tys : List Nat} {R : im_S → Prop} (hf : rm_find M.1 pc = some (.invokevirtual idx, 3)) (hl : rm_lk M.2.1 idx = some (3, mi, na, 1)) (hp : pc + 3 = pc') (e1 : st0.drop na = (2, (a : Int)) :: rest) (e2 : (st0.take na).reverse = av) (hs : im_cs rest ≤ 8) (ho : (P mi).2.2.2.2.2 = oc) (hG : G[a]? = some (0, oc, tys)) (hc : icV G P L ys d mi ((2, (a : Int)) :: av) s R) (h : ∀ s', R s' → ir G P L ys d M (pc', lv, rest, s') Q) : ir G P L ys d M (pc, lv, st0, s) Q :=
  ir_callV hf hl hp e1 e2 hs ho hG hc (fun res hr => by
    obtain ⟨v, s'⟩ := res
    obtain ⟨h1, h2⟩ := hr
    have h1 : v = none := h1
    subst h1
    exact h s' h2)
theorem ir_cVI {idx mi na oc a : Nat} {av rest st0 : List im_V} {tys : List Nat} {t : Nat} {R : Int → im_S → Prop} (hf : rm_find M.1 pc = some (.invokevirtual idx, 3)) (hl : rm_lk M.2.1 idx = some (3, mi, na, 1)) (hp : pc + 3 = pc') (e1 : st0.drop na = (2, (a : Int)) :: rest) (e2 : (st0.take na).reverse = av) (hs : im_cs rest ≤ 8) (ho : (P mi).2.2.2.2.2 = oc) (hG : G[a]? = some (0, oc, tys)) (hc : icI G P L ys t d mi ((2, (a : Int)) :: av) s R) (h : ∀ z s', R z s' → ir G P L ys d M (pc', lv, (t, z) :: rest, s') Q) : ir G P L ys d M (pc, lv, st0, s) Q :=
  ir_callV hf hl hp e1 e2 hs ho hG hc (fun res hr => by
    obtain ⟨v, s'⟩ := res
    obtain ⟨z, h1, h2⟩ := hr
    have h1 : v = some (t, z) := h1
    subst h1
    exact h z s' h2)
theorem ir_cVR {idx mi na oc a : Nat} {av rest st0 : List im_V} {tys : List Nat} {R : Nat → im_S → Prop} (hf : rm_find M.1 pc = some (.invokevirtual idx, 3)) (hl : rm_lk M.2.1 idx = some (3, mi, na, 1)) (hp : pc + 3 = pc') (e1 : st0.drop na = (2, (a : Int)) :: rest) (e2 : (st0.take na).reverse = av) (hs : im_cs rest ≤ 8) (ho : (P mi).2.2.2.2.2 = oc) (hG : G[a]? = some (0, oc, tys)) (hc : icR G P L ys d mi ((2, (a : Int)) :: av) s R) (h : ∀ b s', R b s' → ir G P L ys d M (pc', lv, (2, (b : Int)) :: rest, s') Q) : ir G P L ys d M (pc, lv, st0, s) Q :=
  ir_callV hf hl hp e1 e2 hs ho hG hc (fun res hr => by
    obtain ⟨v, s'⟩ := res
    obtain ⟨b, h1, h2⟩ := hr
    have h1 : v = some (2, (b : Int)) := h1
    subst h1
    exact h b s' h2)
theorem ir_cFV {idx mi na : Nat} {n : Int} {av rest st0 : List im_V} {R : im_S → Prop} (hf : rm_find M.1 pc = some (.invokevirtual idx, 3)) (hl : rm_lk M.2.1 idx = some (3, mi, na, 4)) (hp : pc + 3 = pc') (e1 : st0.drop na = (4, n) :: rest) (e2 : (st0.take na).reverse = av) (hs : im_cs rest ≤ 8) (hn : n = 2 ∨ n = 4) (hc : icV G P L ys d mi ((4, n) :: av) s R) (h : ∀ s', R s' → ir G P L ys d M (pc', lv, rest, s') Q) : ir G P L ys d M (pc, lv, st0, s) Q :=
  ir_callF hf hl hp e1 e2 hs hn hc (fun res hr => by
    obtain ⟨v, s'⟩ := res
    obtain ⟨h1, h2⟩ := hr
    have h1 : v = none := h1
    subst h1
    exact h s' h2)
theorem ir_cFI {idx mi na : Nat} {n : Int} {av rest st0 : List im_V} {t : Nat} {R : Int → im_S → Prop} (hf : rm_find M.1 pc = some (.invokevirtual idx, 3)) (hl : rm_lk M.2.1 idx = some (3, mi, na, 4)) (hp : pc + 3 = pc') (e1 : st0.drop na = (4, n) :: rest) (e2 : (st0.take na).reverse = av) (hs : im_cs rest ≤ 8) (hn : n = 2 ∨ n = 4) (hc : icI G P L ys t d mi ((4, n) :: av) s R) (h : ∀ z s', R z s' → ir G P L ys d M (pc', lv, (t, z) :: rest, s') Q) : ir G P L ys d M (pc, lv, st0, s) Q :=
  ir_callF hf hl hp e1 e2 hs hn hc (fun res hr => by
    obtain ⟨v, s'⟩ := res
    obtain ⟨z, h1, h2⟩ := hr
    have h1 : v = some (t, z) := h1
    subst h1
    exact h z s' h2)
theorem ir_cFR {idx mi na : Nat} {n : Int} {av rest st0 : List im_V} {R : Nat → im_S → Prop} (hf : rm_find M.1 pc = some (.invokevirtual idx, 3)) (hl : rm_lk M.2.1 idx = some (3, mi, na, 4)) (hp : pc + 3 = pc') (e1 : st0.drop na = (4, n) :: rest) (e2 : (st0.take na).reverse = av) (hs : im_cs rest ≤ 8) (hn : n = 2 ∨ n = 4) (hc : icR G P L ys d mi ((4, n) :: av) s R) (h : ∀ b s', R b s' → ir G P L ys d M (pc', lv, (2, (b : Int)) :: rest, s') Q) : ir G P L ys d M (pc, lv, st0, s) Q :=
  ir_callF hf hl hp e1 e2 hs hn hc (fun res hr => by
    obtain ⟨v, s'⟩ := res
    obtain ⟨b, h1, h2⟩ := hr
    have h1 : v = some (2, (b : Int)) := h1
    subst h1
    exact h b s' h2)
end IRM
