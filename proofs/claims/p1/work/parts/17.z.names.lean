/-! NAMED NUMBERS: what they are; intervals decide the branches -/
def bt (x : Int32) (i : Nat) : Bool := x.toBitVec.getLsbD i
theorem b_ext {x y : Int32} (h : ∀ i, i < 32 → bt x i = bt y i) : x = y := Int32.toBitVec_inj.mp (BitVec.eq_of_getLsbD_eq (fun i hi => h i hi))
theorem b_and (x y : Int32) (i : Nat) : bt (x &&& y) i = (bt x i && bt y i) := by unfold bt; rw [Int32.toBitVec_and, BitVec.getLsbD_and]
theorem b_big {x : Int32} {i : Nat} (h : 32 ≤ i) : bt x i = false := BitVec.getLsbD_of_ge _ _ h
theorem b_255 (i : Nat) : bt 255 i = decide (i < 8) := by
  rcases Nat.lt_or_ge i 32 with h | h
  · exact (by decide +kernel : ∀ i, i < 32 → bt 255 i = decide (i < 8)) i h
  · rw [b_big h, decide_eq_false (by omega)]
theorem s_l : ∀ n, n < 32 → ((nI n &&& 31).toBitVec.smod 32).toNat = n := by decide +kernel
theorem s_u : ∀ n, n < 32 → (((nI n).toUInt32 &&& Int32.toUInt32 31).toBitVec % 32).toNat = n := by decide +kernel
theorem b_ushr (n : Nat) (hn : n < 32) (x : Int32) (i : Nat) : bt ((x.toUInt32 >>> ((nI n).toUInt32 &&& Int32.toUInt32 31)).toInt32) i = bt x (n + i) := by
  show (x.toUInt32 >>> ((nI n).toUInt32 &&& Int32.toUInt32 31)).toBitVec.getLsbD i = x.toUInt32.toBitVec.getLsbD (n + i)
  rw [UInt32.toBitVec_shiftRight]
  show (x.toUInt32.toBitVec >>> (((nI n).toUInt32 &&& Int32.toUInt32 31).toBitVec % 32).toNat).getLsbD i = _
  rw [s_u n hn, BitVec.getLsbD_ushiftRight]
theorem b_sshr (n : Nat) (hn : n < 32) (x : Int32) {i : Nat} (hi : i < 32) : bt (x >>> (nI n &&& 31)) i = if n + i < 32 then bt x (n + i) else bt x 31 := by
  unfold bt
  rw [Int32.toBitVec_shiftRight]
  show (x.toBitVec.sshiftRight ((nI n &&& 31).toBitVec.smod 32).toNat).getLsbD i = _
  rw [s_l n hn, BitVec.getLsbD_sshiftRight, BitVec.msb_eq_getLsbD_last]
  simp [hi]
theorem rm_sh255 (n : Nat) (hn : n ≤ 24) (x : Int32) : rm_fop 0 (rm_fop 2 x (nI n)) 255 = rm_fop 0 (rm_fop 1 x (nI n)) 255 := by
  apply b_ext
  intro i hi
  show bt ((x.toUInt32 >>> ((nI n).toUInt32 &&& Int32.toUInt32 31)).toInt32 &&& 255) i = bt ((x >>> (nI n &&& 31)) &&& 255) i
  rw [b_and, b_and, b_ushr n (by omega), b_sshr n (by omega) x hi, b_255]
  by_cases h8 : i < 8
  · rw [if_pos (by omega)]
  · simp [h8]
def rm_vals (xs : Nat → Int32) (k : Nat) : Int32 := match k with
  | 0 => xs 0
  | 1 => xs 1
  | 2 => xs 2
  | 3 => xs 3
  | 4 => rm_fop 0 (xs 0) 15
  | 10 => rm_fop 2 (xs 1) 0
  | 11 => rm_fop 2 (xs 1) 8
  | 12 => rm_fop 2 (xs 1) 16
  | 13 => rm_fop 2 (xs 1) 24
  | 20 => rm_fop 1 (xs 1) 0
  | 21 => rm_fop 1 (xs 1) 8
  | 22 => rm_fop 1 (xs 1) 16
  | 23 => rm_fop 1 (xs 1) 24
  | 30 => rm_fop 0 (rm_fop 2 (xs 1) 0) 255
  | 31 => rm_fop 0 (rm_fop 2 (xs 1) 8) 255
  | 32 => rm_fop 0 (rm_fop 2 (xs 1) 16) 255
  | 33 => rm_fop 0 (rm_fop 2 (xs 1) 24) 255
  | 50 => rm_fop 3 (xs 1) 0
  | 60 => rm_fop 3 (rm_fop 0 (rm_fop 2 (xs 1) 0) 255) 0
  | 61 => rm_fop 3 (rm_fop 0 (rm_fop 2 (xs 1) 8) 255) 0
  | 62 => rm_fop 3 (rm_fop 0 (rm_fop 2 (xs 1) 16) 255) 0
  | 63 => rm_fop 3 (rm_fop 0 (rm_fop 2 (xs 1) 24) 255) 0
  | _ => 0
theorem rm_fop3 (x y z : Int32) : rm_fop 3 x y = rm_fop 3 x z := rfl
theorem rm_sym_s (xs : Nat → Int32) (op k : Nat) (y : Int32) (j : Nat) (h : rm_sym op k y = some j) : j < 100 ∧ rm_vals xs j = rm_fop op (rm_vals xs k) y := by
  unfold rm_sym at h
  split at h
  · split at h
    · rename_i hk
      obtain ⟨rfl, rfl⟩ := hk
      cases h
      exact ⟨by decide, rfl⟩
    · split at h
      · rename_i hk
        obtain ⟨h1, h2, rfl⟩ := hk
        cases h
        refine ⟨by omega, ?_⟩
        rcases (show k = 10 ∨ k = 11 ∨ k = 12 ∨ k = 13 by omega) with rfl | rfl | rfl | rfl <;> rfl
      · split at h
        · rename_i hk
          obtain ⟨h1, h2, rfl⟩ := hk
          cases h
          refine ⟨by omega, ?_⟩
          rcases (show k = 20 ∨ k = 21 ∨ k = 22 ∨ k = 23 by omega) with rfl | rfl | rfl | rfl
          · exact rm_sh255 0 (by omega) (xs 1)
          · exact rm_sh255 8 (by omega) (xs 1)
          · exact rm_sh255 16 (by omega) (xs 1)
          · exact rm_sh255 24 (by omega) (xs 1)
        · cases h
  · split at h
    · rename_i hk
      subst hk
      split at h
      · rename_i hy; subst hy; cases h; exact ⟨by decide, rfl⟩
      · split at h
        · rename_i hy; subst hy; cases h; exact ⟨by decide, rfl⟩
        · split at h
          · rename_i hy; subst hy; cases h; exact ⟨by decide, rfl⟩
          · split at h
            · rename_i hy; subst hy; cases h; exact ⟨by decide, rfl⟩
            · cases h
    · cases h
  · split at h
    · rename_i hk
      subst hk
      split at h
      · rename_i hy; subst hy; cases h; exact ⟨by decide, rfl⟩
      · split at h
        · rename_i hy; subst hy; cases h; exact ⟨by decide, rfl⟩
        · split at h
          · rename_i hy; subst hy; cases h; exact ⟨by decide, rfl⟩
          · split at h
            · rename_i hy; subst hy; cases h; exact ⟨by decide, rfl⟩
            · cases h
    · cases h
  · split at h
    · rename_i hk
      subst hk
      cases h
      exact ⟨by decide, rfl⟩
    · split at h
      · rename_i hk
        cases h
        refine ⟨by omega, ?_⟩
        rcases (show k = 30 ∨ k = 31 ∨ k = 32 ∨ k = 33 by omega) with rfl | rfl | rfl | rfl <;> rfl
      · cases h
  · cases h
theorem rm_i32 (x : Int32) : Int32.ofNat x.toBitVec.toNat = x := by
  apply Int32.toBitVec_inj.mp
  show BitVec.ofNat 32 x.toBitVec.toNat = x.toBitVec
  simp
def rm_ext (b t v : Nat) (xs : Nat → Int32) : Nat → Nat := fun i => if i = 0 then b else if i = 2 then t else if i = 3 then v else (rm_vals xs (i - 100)).toBitVec.toNat
theorem rm_e_ext (b t v : Nat) (xs : Nat → Int32) (k : Nat) : rm_e (rm_ext b t v xs) k = rm_vals xs k := by
  unfold rm_e rm_ext
  rw [if_neg (by omega), if_neg (by omega), if_neg (by omega), Nat.add_sub_cancel_left]
  exact rm_i32 _
/-- an interval decides a condition -/
def rm_ivf : List (Nat × Int × Int) → Nat → Option (Int × Int)
  | [], _ => none
  | q :: r, k => if q.1 = k then some q.2 else rm_ivf r k
def rm_ivk (iv : List (Nat × Int × Int)) (f : Nat × Int32 × Nat × Bool) : Bool := match rm_ivf iv f.1 with
  | none => false
  | some (lo, hi) => match f.2.2.1, f.2.2.2 with
    | 0, true => decide (lo = f.2.1.toInt) && decide (hi = f.2.1.toInt)
    | 0, false => decide (f.2.1.toInt < lo) || decide (hi < f.2.1.toInt)
    | 1, true => decide (f.2.1.toInt < lo) || decide (hi < f.2.1.toInt)
    | 1, false => decide (lo = f.2.1.toInt) && decide (hi = f.2.1.toInt)
    | 2, true => decide (hi < f.2.1.toInt)
    | 2, false => decide (f.2.1.toInt ≤ lo)
    | 3, true => decide (f.2.1.toInt ≤ lo)
    | 3, false => decide (hi < f.2.1.toInt)
    | 4, true => decide (f.2.1.toInt < lo)
    | 4, false => decide (hi ≤ f.2.1.toInt)
    | 5, true => decide (hi ≤ f.2.1.toInt)
    | 5, false => decide (f.2.1.toInt < lo)
    | _, _ => false
theorem rm_ivf_s {ext : Nat → Nat} {iv : List (Nat × Int × Int)} (h : ∀ q ∈ iv, q.2.1 ≤ (rm_e ext q.1).toInt ∧ (rm_e ext q.1).toInt ≤ q.2.2) {k : Nat} {lo hi : Int} (e : rm_ivf iv k = some (lo, hi)) : lo ≤ (rm_e ext k).toInt ∧ (rm_e ext k).toInt ≤ hi := by
  induction iv with
  | nil => cases e
  | cons q r ih =>
    unfold rm_ivf at e
    split at e
    · rename_i hq
      have z := h q List.mem_cons_self
      rw [hq] at z
      have e := Option.some.inj e
      rw [e] at z
      exact z
    · exact ih (fun x hx => h x (List.mem_cons_of_mem _ hx)) e
theorem rm_ivk_s {ext : Nat → Nat} {iv : List (Nat × Int × Int)} (h : ∀ q ∈ iv, q.2.1 ≤ (rm_e ext q.1).toInt ∧ (rm_e ext q.1).toInt ≤ q.2.2) {f : Nat × Int32 × Nat × Bool} (hf : rm_ivk iv f = true) : ∀ cd : ClassFile.Cond, rm_cn cd = f.2.2.1 → rm_cnd cd (rm_e ext f.1) f.2.1 = f.2.2.2 := by
  intro cd hcd
  unfold rm_ivk at hf
  split at hf
  · cases hf
  · rename_i lo hi e
    obtain ⟨z1, z2⟩ := rm_ivf_s h e
    obtain ⟨k, y, n, b⟩ := f
    generalize rm_e ext k = x at z1 z2 ⊢
    dsimp only at hcd hf z1 z2 ⊢
    subst hcd
    have ne : ∀ u v : Int32, u.toInt ≠ v.toInt → ¬ u = v := fun u v h e => h (by rw [e])
    cases cd <;> cases b <;> simp only [rm_cn, Bool.and_eq_true, Bool.or_eq_true, decide_eq_true_eq] at hf <;> simp only [rm_cnd, decide_eq_true_eq, decide_eq_false_iff_not, Int32.lt_iff_toInt_lt, Int32.le_iff_toInt_le]
    · exact ne _ _ (by omega)
    · exact Int32.toInt_inj.mp (by omega)
    · exact fun z => z (Int32.toInt_inj.mp (by omega))
    · exact ne _ _ (by omega)
    all_goals omega
