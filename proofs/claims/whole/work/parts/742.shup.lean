theorem div_div9 {n m k : Int} (h : 0 ≤ m) : n / m / k = n / (m * k) := by rw [Int.ediv_ediv, if_neg (by omega)]; omega
theorem mul_div_q {h c q r : Int} (hq : 0 < q) (c0 : 0 ≤ c) (c1 : c < q) (hr : 0 < r) : (h * q + c) / (q * r) = (h * q) / (q * r) := by
  rw [← div_div9 (Int.le_of_lt hq), ← div_div9 (Int.le_of_lt hq), Int.mul_ediv_cancel _ (by omega)]
  congr 1
  rw [Int.add_comm, Int.add_mul_ediv_right _ _ (by omega), Int.ediv_eq_zero_of_lt c0 c1]
  omega
/-- limb k of a number times q -/
def shl9 (H : Nat → Int) (q : Int) (k : Nat) : Int := ((H k % 4294967296) * q + (if k = 0 then 0 else (H (k - 1) % 4294967296) * q / 4294967296)) % 4294967296
theorem shl9_sum {H : Nat → Int} {q r : Int} (hq : 0 < q) (hr : 0 < r) (hqr : q * r = 4294967296) : ∀ m : Nat, bv (shl9 H q) m + (if m = 0 then 0 else (H (m - 1) % 4294967296) * q / 4294967296) * 4294967296 ^ m = q * bv H m := by
  intro m
  induction m with
  | zero => simp [bv_0]
  | succ m ih =>
    obtain ⟨c, hc⟩ : ∃ c : Int, c = (if m = 0 then 0 else (H (m - 1) % 4294967296) * q / 4294967296) := ⟨_, rfl⟩
    have cb : 0 ≤ c ∧ c < q := by
      by_cases h0 : m = 0
      · rw [if_pos h0] at hc; omega
      · rw [if_neg h0] at hc
        have x0 : 0 ≤ H (m - 1) % 4294967296 := Int.emod_nonneg _ (by decide)
        have x1 : H (m - 1) % 4294967296 < 4294967296 := Int.emod_lt_of_pos _ (by decide)
        rw [hc]
        refine ⟨Int.ediv_nonneg (Int.mul_nonneg x0 (Int.le_of_lt hq)) (by decide), ?_⟩
        apply Int.ediv_lt_of_lt_mul (by decide)
        rw [Int.mul_comm q]
        exact Int.mul_lt_mul_of_pos_right x1 hq
    rw [← hc] at ih
    have e := add_step (row := shl9 H q) (row' := shl9 H q) (i := m) (c := c) (t := c + (H m % 4294967296) * q) (x := (H m % 4294967296) * q) ih (fun _ _ => rfl) (by
      unfold shl9
      rw [Int.emod_emod, ← hc, Int.add_comm]) rfl
    have e2 : (if m + 1 = 0 then 0 else (H (m + 1 - 1) % 4294967296) * q / 4294967296) = (c + (H m % 4294967296) * q) / 4294967296 := by
      rw [if_neg (by omega), Nat.add_sub_cancel, Int.add_comm c, ← hqr, mul_div_q hq cb.1 cb.2 hr]
    rw [e2, e, bv_s, Int.mul_add]
    congr 1
    rw [Int.mul_comm (H m % 4294967296) q, Int.mul_assoc]
theorem pow_w (n : Nat) : (4294967296 : Int) ^ n = 2 ^ (32 * n) := by
  rw [Int.pow_mul]; rfl
/-- the machine's limb -/
theorem shl_limb {h l : Int} {b : Nat} (h0 : 0 ≤ h) (h1 : h < 4294967296) (l0 : 0 ≤ l) (l1 : l < 4294967296) (hb : b < 32) : w32 (ushJ (shlJ (orJ (shlJ h 32) l) (b : Int)) 32) % 4294967296 = (h * 2 ^ b + l * 2 ^ b / 4294967296) % 4294967296 := by
  rw [w32_mod, ushJ_32, shlJ_eq (show b < 64 by omega)]
  have e1 : shlJ h 32 = w64 (h * 4294967296) := shlJ_eq (k := 32) (by decide)
  have hz : w64 (h * 4294967296) % 4294967296 = 0 := by
    have := w64_mod (h * 4294967296)
    omega
  rw [e1, orJ_eq hz l0 l1, w64_mod]
  have e2 : (w64 (w64 (h * 4294967296) + l) * 2 ^ b) % 18446744073709551616 = ((h * 4294967296 + l) * 2 ^ b) % 18446744073709551616 := by
    rw [Int.mul_emod, w64_mod, Int.add_emod, w64_mod, ← Int.add_emod, ← Int.mul_emod]
  rw [e2]
  have e3 : (h * 4294967296 + l) * 2 ^ b = l * 2 ^ b + (h * 2 ^ b) * 4294967296 := by
    rw [Int.add_mul, Int.mul_assoc, Int.mul_comm 4294967296, ← Int.mul_assoc]
    omega
  rw [e3]
  generalize l * 2 ^ b = x
  generalize h * 2 ^ b = y
  have e4 : (x + y * 4294967296) / 4294967296 = x / 4294967296 + y := Int.add_mul_ediv_right _ _ (by decide)
  have e5 : (x + y * 4294967296) % 18446744073709551616 / 4294967296 % 4294967296 = (x + y * 4294967296) / 4294967296 % 4294967296 := by omega
  rw [e5, e4, Int.add_comm]
theorem shiftUp_b {a : Nat} {s : im_S} {v by9 : Int} {Q : im_S → Prop} (ha : big s a v) (hby : by9 ≤ 1000000) (g0 : 1 ≤ gln (a + 1)) (g1 : gln (a + 1) ≤ 1000) (hr : (v.natAbs : Int) * 2 ^ by9.toNat < 4294967296 ^ rm9 a) (hQ : ∀ s', big s' a (v * 2 ^ by9.toNat) → bfr a s s' → Q s') : C_shiftUp1 a by9 s Q := by
  obtain ⟨n, h1, h2, h3, h4, h5⟩ := ha
  have hc : cgf s a 1 = (n : Int) := h1
  have hrm : (rm9 a : Int) = gln (a + 1) := by unfold rm9; omega
  unfold C_shiftUp1
  refine ⟨fun c => ?_, fun c => ⟨fun c2 => ?_, fun c2 => ?_⟩⟩
  · have e : by9.toNat = 0 := by omega
    rw [e] at hQ
    refine hQ s ?_ (bfr_refl _ _)
    simp
    exact ⟨n, h1, h2, h3, h4, h5⟩
  · have v0 : v ≠ 0 := by
      intro e
      subst e
      exact c2 h3
    have n0 : 0 < n := by
      rcases Nat.eq_zero_or_pos n with h | h
      · exact absurd ((big_n0 (s := s) h4 h5).mp h) v0
      · exact h
    obtain ⟨w, b, hb, hwb⟩ : ∃ w b : Nat, b < 32 ∧ by9 = 32 * (w : Int) + (b : Int) := ⟨(by9 / 32).toNat, (by9 % 32).toNat, by omega, by omega⟩
    have e1 : shrI by9 5 = (w : Int) := by rw [shrI_5 ⟨by omega, by omega⟩]; omega
    have e2 : andI by9 31 = (b : Int) := by rw [andI_31]; omega
    rw [e1, e2, hc, w32_id (x := gln (a + 1) - 1) (by omega) (by omega), w32_id (x := (n : Int) + (w : Int)) (by omega) (by omega)]
    obtain ⟨q, hq⟩ : ∃ q : Int, q = 2 ^ b := ⟨_, rfl⟩
    obtain ⟨r, hr9⟩ : ∃ r : Int, r = 2 ^ (32 - b) := ⟨_, rfl⟩
    have q0 : 0 < q := by rw [hq]; exact Int.pow_pos (by decide)
    have r0 : 0 < r := by rw [hr9]; exact Int.pow_pos (by decide)
    have hqr : q * r = 4294967296 := by
      rw [hq, hr9, ← Int.pow_add, show b + (32 - b) = 32 by omega]; rfl
    have hp : (2 : Int) ^ by9.toNat = 4294967296 ^ w * q := by
      rw [hq, pow_w, ← Int.pow_add]
      congr 1
      omega
    rw [hp] at hr hQ
    have va : 1 ≤ (v.natAbs : Int) := by omega
    -- there is room for the words
    have hw : w < rm9 a := by
      rcases Nat.lt_or_ge w (rm9 a) with h | h
      · exact h
      · exfalso
        have k1 := w_le h
        have k2 : 4294967296 ^ w * 1 ≤ 4294967296 ^ w * q := Int.mul_le_mul_of_nonneg_left (by omega) (Int.le_of_lt (w_pos w))
        have k3 : 1 * (4294967296 ^ w * q) ≤ (v.natAbs : Int) * (4294967296 ^ w * q) := Int.mul_le_mul_of_nonneg_right va (Int.le_of_lt (Int.mul_pos (w_pos w) q0))
        omega
    refine min_J ?_
    obtain ⟨T, hT⟩ : ∃ T : Nat, (T : Int) = min (gln (a + 1) - 1) ((n : Int) + (w : Int)) := ⟨(min (gln (a + 1) - 1) ((n : Int) + (w : Int))).toNat, by omega⟩
    rw [← hT]
    obtain ⟨H, hH⟩ : ∃ H : Nat → Int, H = ext (s.2 (a + 1)) n := ⟨_, rfl⟩
    obtain ⟨nl, hnl⟩ : ∃ nl : Nat → Int, nl = fun k => if k < w then 0 else shl9 H q (k - w) := ⟨_, rfl⟩
    refine ⟨fun p => bfr a s p.2 ∧ p.2.1 a 1 = (n : Int) ∧ p.2.1 a 2 = v.sign ∧ ∃ i : Nat, p.1 = (i : Int) - 1 ∧ i ≤ T + 1 ∧ (∀ k, i ≤ k → k ≤ T → p.2.2 (a + 1) k % 4294967296 = nl k) ∧ ∀ k, k < i → p.2.2 (a + 1) k = s.2 (a + 1) k, ⟨bfr_refl _ _, h1, h3, T + 1, by omega, Nat.le_refl _, fun k h1 h2 => by omega, fun _ _ => rfl⟩, ?_⟩
    rintro ⟨l5, s'⟩ ⟨f1, f2, f3, i, e9, i1, i2, i3⟩
    dsimp only at f1 f2 f3 e9 i2 i3 ⊢
    subst e9
    have fc : cgf s' a 1 = (n : Int) := f2
    unfold C_shiftUp1_43
    refine ⟨fun h s2 es => ?_, fun h u hu x hx hb2 s4 es => ?_⟩
    · have e : i = 0 := by omega
      subst e
      subst es
      rw [w32_id (by omega) (by omega)]
      obtain ⟨m, hm⟩ : ∃ m : Nat, T + 1 = w + m := ⟨T + 1 - w, by omega⟩
      have hsum := shl9_sum (H := H) q0 r0 hqr m
      have eb : bv (s'.2 (a + 1)) (T + 1) = 4294967296 ^ w * bv (shl9 H q) m := by
        rw [hm, bv_add, bv_congr (f := s'.2 (a + 1)) (g := fun _ => 0) (fun k hk => by rw [i2 k (by omega) (by omega), hnl]; show (if k < w then 0 else _) = _; rw [if_pos hk]; rfl)]
        have ez : ∀ j, bv (fun _ => 0) j = 0 := by
          intro j
          induction j with
          | zero => rfl
          | succ j ih => rw [bv_s, ih]; simp
        rw [ez, Int.zero_add]
        congr 1
        refine bv_congr (fun k hk => ?_)
        rw [i2 (w + k) (by omega) (by omega), hnl]
        show (if w + k < w then 0 else shl9 H q (w + k - w)) = _
        rw [if_neg (by omega), Nat.add_sub_cancel_left]
        unfold shl9
        rw [Int.emod_emod]
      have hVn : bv H n = (v.natAbs : Int) := by rw [hH, bv_ext (Nat.le_refl _)]; exact h4
      have hnm : n ≤ m := by
        by_cases hh : T = n + w
        · omega
        · have eR : rm9 a = w + m := by omega
          have : (v.natAbs : Int) < 4294967296 ^ m := by
            rw [eR, Int.pow_add] at hr
            have k1 : (v.natAbs : Int) * 1 ≤ (v.natAbs : Int) * q := Int.mul_le_mul_of_nonneg_left (by omega) (by omega)
            have k2 : (v.natAbs : Int) * (4294967296 ^ w * q) = 4294967296 ^ w * ((v.natAbs : Int) * q) := Int.mul_left_comm _ _ _
            rw [k2] at hr
            have k3 := Int.lt_of_mul_lt_mul_left hr (Int.le_of_lt (w_pos w))
            omega
          exact bv_size n0 (h5 n0) this
      have hVm : bv H m = (v.natAbs : Int) := by rw [hH, bv_ext hnm]; exact h4
      have hcar : (if m = 0 then 0 else (H (m - 1) % 4294967296) * q / 4294967296) = 0 := by
        obtain ⟨c9, hc9⟩ : ∃ c9 : Int, c9 = (if m = 0 then 0 else (H (m - 1) % 4294967296) * q / 4294967296) := ⟨_, rfl⟩
        rw [← hc9] at hsum ⊢
        by_cases hh : T = n + w
        · have em : m = n + 1 := by omega
          rw [hc9, if_neg (by omega), em, Nat.add_sub_cancel, hH]
          unfold ext
          rw [if_neg (by omega)]
          simp
        · have eR : rm9 a = w + m := by omega
          have c0 : 0 ≤ c9 := by
            rw [hc9]
            split
            · exact Int.le_refl _
            · exact Int.ediv_nonneg (Int.mul_nonneg (Int.emod_nonneg _ (by decide)) (Int.le_of_lt q0)) (by decide)
          rcases Int.lt_or_le 0 c9 with h | h
          · exfalso
            have k1 : 1 * 4294967296 ^ m ≤ c9 * 4294967296 ^ m := Int.mul_le_mul_of_nonneg_right h (Int.le_of_lt (w_pos m))
            have k2 := bv_nn (shl9 H q) m
            rw [hVm] at hsum
            rw [eR, Int.pow_add] at hr
            have k4 : (v.natAbs : Int) * (4294967296 ^ w * q) = 4294967296 ^ w * (q * (v.natAbs : Int)) := by rw [Int.mul_left_comm, Int.mul_comm q]
            rw [k4] at hr
            have k3 := Int.lt_of_mul_lt_mul_left hr (Int.le_of_lt (w_pos w))
            omega
          · omega
      rw [hcar, Int.zero_mul, Int.add_zero, hVm] at hsum
      have hval : bv (s'.2 (a + 1)) (T + 1) = ((v * (4294967296 ^ w * q)).natAbs : Int) := by
        rw [eb, hsum, Int.natAbs_mul, Int.natCast_mul]
        have kp : 0 < 4294967296 ^ w * q := Int.mul_pos (w_pos w) q0
        rw [Int.natAbs_of_nonneg (Int.le_of_lt kp), Int.mul_left_comm (v.natAbs : Int), Int.mul_comm q]
      refine trim_b (n := T + 1) (m := v.sign) (v := v * (4294967296 ^ w * q)) ?_ (by omega) ?_ ?_ (fun _ => ?_) (fun s9 l1 l2 _ => hQ _ l1 (bfr_trans (bfr_pf f1 (Or.inl rfl)) l2))
      · exact cpf_same _ _ _ _
      · rw [cpf_ne (by omega)]; exact f3
      · exact hval
      · rw [Int.sign_mul, Int.sign_eq_one_of_pos (Int.mul_pos (w_pos w) q0), Int.mul_one]
    · obtain ⟨j, rfl⟩ : ∃ j, i = j + 1 := ⟨i - 1, by omega⟩
      have ej : ((j + 1 : Nat) : Int) - 1 = (j : Int) := by omega
      rw [ej] at hu hx hb2 es ⊢
      have ef : w32 ((j : Int) - (w : Int)) = (j : Int) - (w : Int) := w32_id (by omega) (by omega)
      rw [ef, fc] at hu hx
      have eu : u = if j < w then 0 else H (j - w) % 4294967296 := by
        rw [hu]
        by_cases hjw : j < w
        · rw [if_pos (by omega), if_pos hjw]
        · rw [if_neg (by omega), if_neg hjw, hH]
          have e0 : (j : Int) - (w : Int) = ((j - w : Nat) : Int) := by omega
          rw [e0]
          exact ext_ite (fun _ => by rw [mask_at, i3 _ (by omega)])
      have ex : x = if j ≤ w then 0 else H (j - w - 1) % 4294967296 := by
        rw [hx]
        by_cases hjw : j ≤ w
        · rw [if_pos (by omega), if_pos hjw]
        · rw [if_neg (by omega), if_neg hjw, hH, w32_id (by omega) (by omega)]
          have e0 : (j : Int) - (w : Int) - 1 = ((j - w - 1 : Nat) : Int) := by omega
          rw [e0]
          rw [← ext_ite (x := andJ (cga s' (a + 1) ((j - w - 1 : Nat) : Int)) 4294967295) (fun _ => by rw [mask_at, i3 _ (by omega)])]
          by_cases hh : (n : Int) < (j : Int) - (w : Int)
          · rw [if_pos hh, if_pos (by omega)]
          · rw [if_neg hh, if_neg (by omega)]
      have u0 : 0 ≤ u ∧ u < 4294967296 := by
        rw [eu]; split
        · decide
        · exact ⟨Int.emod_nonneg _ (by decide), Int.emod_lt_of_pos _ (by decide)⟩
      have x0 : 0 ≤ x ∧ x < 4294967296 := by
        rw [ex]; split
        · decide
        · exact ⟨Int.emod_nonneg _ (by decide), Int.emod_lt_of_pos _ (by decide)⟩
      have lim := shl_limb (b := b) u0.1 u0.2 x0.1 x0.2 hb
      have e8 : w32 ((j : Int) + -1) = (j : Int) - 1 := by rw [w32_id (by omega) (by omega)]; omega
      rw [e8]
      subst es
      refine ⟨bfr_pa f1, f2, f3, j, rfl, by omega, fun k hk hk2 => ?_, fun k hk => ?_⟩
      · rw [row_up]
        by_cases ek : k = j
        · rw [if_pos ek, lim, ← hq, eu, ex, ek, hnl]
          show _ = if j < w then 0 else shl9 H q (j - w)
          by_cases hjw : j < w
          · rw [if_pos hjw, if_pos hjw, if_pos (by omega)]; simp
          · rw [if_neg hjw, if_neg hjw]
            unfold shl9
            by_cases hj2 : j ≤ w
            · rw [if_pos hj2, if_pos (by omega)]; simp
            · rw [if_neg hj2, if_neg (by omega)]
        · rw [if_neg ek]
          exact i2 k (by omega) hk2
      · rw [row_up, if_neg (by omega)]
        exact i3 k (by omega)
  · have v0 : v = 0 := by
      by_cases h : v = 0
      · exact h
      · exfalso
        have c2 : s.1 a 2 = 0 := c2
        rw [h3] at c2
        rcases sign_ne h with h | h <;> omega
    subst v0
    rw [Int.zero_mul] at hQ
    exact hQ s ⟨n, h1, h2, h3, h4, h5⟩ (bfr_refl _ _)
