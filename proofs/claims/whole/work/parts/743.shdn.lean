/-- limb k of a number over q -/
def shr9 (H : Nat → Int) (q r : Int) (k : Nat) : Int := (r * ((H (k + 1) % 4294967296) % q) + (H k % 4294967296) / q)
theorem shr9_b {H : Nat → Int} {q r : Int} (hq : 0 < q) (hr : 0 < r) (hqr : q * r = 4294967296) (k : Nat) : 0 ≤ shr9 H q r k ∧ shr9 H q r k < 4294967296 := by
  unfold shr9
  have x0 : 0 ≤ H k % 4294967296 := Int.emod_nonneg _ (by decide)
  have x1 : H k % 4294967296 < 4294967296 := Int.emod_lt_of_pos _ (by decide)
  generalize H k % 4294967296 = x at *
  have y0 : 0 ≤ H (k + 1) % 4294967296 % q := Int.emod_nonneg _ (by omega)
  have y1 : H (k + 1) % 4294967296 % q < q := Int.emod_lt_of_pos _ hq
  generalize H (k + 1) % 4294967296 % q = y at *
  have z0 : 0 ≤ x / q := Int.ediv_nonneg x0 (Int.le_of_lt hq)
  have z1 : x / q < r := by
    apply Int.ediv_lt_of_lt_mul hq
    rw [Int.mul_comm r]; omega
  have p0 := Int.mul_nonneg (Int.le_of_lt hr) y0
  have p1 : r * y ≤ r * (q - 1) := Int.mul_le_mul_of_nonneg_left (by omega) (Int.le_of_lt hr)
  rw [Int.mul_sub, Int.mul_one, Int.mul_comm r q, hqr] at p1
  omega
theorem shr9_sum {H : Nat → Int} {q r : Int} (hq : 0 < q) (hr : 0 < r) (hqr : q * r = 4294967296) : ∀ m : Nat, q * bv (shr9 H q r) m + (H 0 % 4294967296) % q = bv H m + ((H m % 4294967296) % q) * 4294967296 ^ m := by
  intro m
  induction m with
  | zero => simp [bv_0]
  | succ m ih =>
    have b := shr9_b (H := H) hq hr hqr m
    rw [bv_s, bv_s, Int.emod_eq_of_lt b.1 b.2, Int.mul_add, w_succ]
    have e : q * (shr9 H q r m * 4294967296 ^ m) = ((H (m + 1) % 4294967296) % q) * (4294967296 * 4294967296 ^ m) + (H m % 4294967296) * 4294967296 ^ m - ((H m % 4294967296) % q) * 4294967296 ^ m := by
      have e1 : q * shr9 H q r m = 4294967296 * ((H (m + 1) % 4294967296) % q) + (H m % 4294967296 - (H m % 4294967296) % q) := by
        unfold shr9
        rw [Int.mul_add, ← Int.mul_assoc, hqr]
        have := Int.mul_ediv_add_emod (H m % 4294967296) q
        omega
      rw [← Int.mul_assoc, e1, Int.add_mul, Int.sub_mul]
      have e2 : 4294967296 * ((H (m + 1) % 4294967296) % q) * 4294967296 ^ m = ((H (m + 1) % 4294967296) % q) * (4294967296 * 4294967296 ^ m) := by
        rw [Int.mul_comm 4294967296, Int.mul_assoc]
      omega
    omega
theorem shr_limb {h l : Int} {b : Nat} (h0 : 0 ≤ h) (h1 : h < 4294967296) (l0 : 0 ≤ l) (l1 : l < 4294967296) (hb : b < 32) (q r : Int) (hq : q = 2 ^ b) (hr : 0 < r) (hqr : q * r = 4294967296) : w32 (ushJ (orJ (shlJ h 32) l) (b : Int)) % 4294967296 = (r * (h % q) + l / q) % 4294967296 := by
  have q0 : 0 < q := by rw [hq]; exact Int.pow_pos (by decide)
  have e1 : shlJ h 32 = w64 (h * 4294967296) := shlJ_eq (k := 32) (by decide)
  have hz : w64 (h * 4294967296) % 4294967296 = 0 := by
    have := w64_mod (h * 4294967296)
    omega
  have e2 : w64 (w64 (h * 4294967296) + l) % 18446744073709551616 = h * 4294967296 + l := by
    rw [w64_mod, Int.add_emod, w64_mod, ← Int.add_emod]
    omega
  rw [w32_mod, e1, orJ_eq hz l0 l1]
  have key : (h * 4294967296 + l) / q % 4294967296 = (r * (h % q) + l / q) % 4294967296 := by
    have e3 : h * 4294967296 + l = l + (h * r) * q := by rw [Int.mul_assoc, Int.mul_comm r q, hqr]; omega
    rw [e3, Int.add_mul_ediv_right _ _ (by omega)]
    have e4 : h * r = r * (h % q) + (h / q) * 4294967296 := by
      have := Int.mul_ediv_add_emod h q
      have e5 : r * h = r * (q * (h / q) + h % q) := by rw [this]
      rw [Int.mul_comm h r, e5, Int.mul_add, ← Int.mul_assoc, Int.mul_comm r q, hqr]
      omega
    rw [e4]
    omega
  by_cases hb0 : b = 0
  · subst hb0
    have eq1 : q = 1 := by rw [hq]; rfl
    have es : ushJ (w64 (w64 (h * 4294967296) + l)) ((0 : Nat) : Int) = w64 (w64 (h * 4294967296) + l) := by
      show ((Int64.ofInt (w64 (w64 (h * 4294967296) + l))).toUInt64 >>> ((Int32.ofInt ((0 : Nat) : Int)).toInt64.toUInt64 &&& Int64.toUInt64 63)).toInt64.toInt = _
      rw [sh_amountU 0 (by decide)]
      have e6 : ∀ z : UInt64, z >>> UInt64.ofNat 0 = z := by
        intro z
        apply UInt64.toNat_inj.mp
        rw [UInt64.toNat_shiftRight]
        rfl
      rw [e6]
      show (Int64.ofInt (w64 (w64 (h * 4294967296) + l))).toInt = _
      exact w64_id (w64_r _).1 (w64_r _).2
    rw [es, ← key, eq1, Int.ediv_one, ← e2]
    omega
  · rw [ushJ_eq (by omega) (by omega), e2, ← hq, key]
theorem shiftDown_b {a : Nat} {s : im_S} {v by9 : Int} {Q : im_S → Prop} (ha : big s a v) (hby : by9 ≤ 1000000) (g1 : gln (a + 1) ≤ 1000) (hQ : ∀ s', big s' a (v.tdiv (2 ^ by9.toNat)) → bfr a s s' → Q s') : C_shiftDown1 a by9 s Q := by
  obtain ⟨n, h1, h2, h3, h4, h5⟩ := ha
  have hc : cgf s a 1 = (n : Int) := h1
  unfold C_shiftDown1
  refine ⟨fun c => ?_, fun c => ⟨fun c2 => ?_, fun c2 => ?_⟩⟩
  · have e : by9.toNat = 0 := by omega
    rw [e] at hQ
    refine hQ s ?_ (bfr_refl _ _)
    simp
    exact ⟨n, h1, h2, h3, h4, h5⟩
  · obtain ⟨w, b, hb, hwb⟩ : ∃ w b : Nat, b < 32 ∧ by9 = 32 * (w : Int) + (b : Int) := ⟨(by9 / 32).toNat, (by9 % 32).toNat, by omega, by omega⟩
    have e1 : shrI by9 5 = (w : Int) := by rw [shrI_5 ⟨by omega, by omega⟩]; omega
    have e2 : andI by9 31 = (b : Int) := by rw [andI_31]; omega
    rw [e1, e2]
    obtain ⟨q, hq⟩ : ∃ q : Int, q = 2 ^ b := ⟨_, rfl⟩
    obtain ⟨r, hr9⟩ : ∃ r : Int, r = 2 ^ (32 - b) := ⟨_, rfl⟩
    have q0 : 0 < q := by rw [hq]; exact Int.pow_pos (by decide)
    have r0 : 0 < r := by rw [hr9]; exact Int.pow_pos (by decide)
    have hqr : q * r = 4294967296 := by
      rw [hq, hr9, ← Int.pow_add, show b + (32 - b) = 32 by omega]; rfl
    have hp : (2 : Int) ^ by9.toNat = 4294967296 ^ w * q := by
      rw [hq, pow_w, ← Int.pow_add]
      congr 1
      omega
    rw [hp] at hQ
    obtain ⟨H, hH⟩ : ∃ H : Nat → Int, H = fun k => ext (s.2 (a + 1)) n (w + k) := ⟨_, rfl⟩
    refine ⟨fun p => bfr a s p.2 ∧ p.2.1 a 1 = (n : Int) ∧ p.2.1 a 2 = v.sign ∧ ∃ i : Nat, p.1 = (i : Int) ∧ i ≤ n ∧ (∀ k, k < i → p.2.2 (a + 1) k % 4294967296 = shr9 H q r k) ∧ ∀ k, i ≤ k → p.2.2 (a + 1) k = s.2 (a + 1) k, ⟨bfr_refl _ _, h1, h3, 0, rfl, by omega, fun k hk => absurd hk (by omega), fun _ _ => rfl⟩, ?_⟩
    rintro ⟨l4, s'⟩ ⟨f1, f2, f3, i, e9, i1, i2, i3⟩
    dsimp only at f1 f2 f3 e9 i2 i3 ⊢
    subst e9
    have fc : cgf s' a 1 = (n : Int) := f2
    unfold C_shiftDown1_24
    rw [fc]
    refine ⟨fun h => ?_, fun h u hu x hx hb2 s4 es => ?_⟩
    · have e : i = n := by omega
      subst e
      have hsum := shr9_sum (H := H) q0 r0 hqr i
      have hz : H i = 0 := by rw [hH]; show ext (s.2 (a + 1)) i (w + i) = 0; unfold ext; rw [if_neg (by omega)]
      rw [hz] at hsum
      simp at hsum
      have eb : bv (s'.2 (a + 1)) i = bv (shr9 H q r) i := bv_congr (fun k hk => by
        rw [i2 k hk]
        have b := shr9_b (H := H) q0 r0 hqr k
        rw [Int.emod_eq_of_lt b.1 b.2])
      have m0 : 0 ≤ H 0 % 4294967296 % q := Int.emod_nonneg _ (by omega)
      have m1 : H 0 % 4294967296 % q < q := Int.emod_lt_of_pos _ q0
      have eU : bv (s'.2 (a + 1)) i = bv H i / q := by
        rw [eb]
        apply Int.le_antisymm
        · apply Int.le_ediv_of_mul_le q0
          rw [Int.mul_comm]; omega
        · apply Int.le_of_lt_add_one
          apply Int.ediv_lt_of_lt_mul q0
          rw [Int.add_mul, Int.one_mul, Int.mul_comm]; omega
      have eV : bv H i = (v.natAbs : Int) / 4294967296 ^ w := by
        have e0 := bv_add (ext (s.2 (a + 1)) i) w i
        rw [bv_ext (by omega), h4] at e0
        have e1 : bv (fun k => ext (s.2 (a + 1)) i (w + k)) i = bv H i := by rw [hH]
        rw [e1] at e0
        rw [e0, Int.add_mul_ediv_left _ _ (by have := w_pos w; omega), Int.ediv_eq_zero_of_lt (bv_nn _ _) (bv_lt _ _), Int.zero_add]
      have eT : bv (s'.2 (a + 1)) i = ((v.tdiv (4294967296 ^ w * q)).natAbs : Int) := by
        rw [eU, eV, div_div9 (Int.le_of_lt (w_pos w)), Int.natAbs_tdiv]
        have kp : 0 < 4294967296 ^ w * q := Int.mul_pos (w_pos w) q0
        show _ = (((v.natAbs / (4294967296 ^ w * q).natAbs : Nat)) : Int)
        rw [Int.natCast_ediv, Int.natAbs_of_nonneg (Int.le_of_lt kp)]
      refine trim_b (n := i) (m := v.sign) (v := v.tdiv (4294967296 ^ w * q)) f2 h2 f3 eT (fun hv => ?_) (fun s9 l1 l2 _ => hQ _ l1 (bfr_trans f1 l2))
      have kp : 0 < 4294967296 ^ w * q := Int.mul_pos (w_pos w) q0
      rcases Int.lt_trichotomy v 0 with hv0 | hv0 | hv0
      · have k1 : 0 ≤ (-v).tdiv (4294967296 ^ w * q) := Int.tdiv_nonneg (by omega) (Int.le_of_lt kp)
        rw [Int.neg_tdiv] at k1
        rw [Int.sign_eq_neg_one_of_neg hv0, Int.sign_eq_neg_one_of_neg (by omega)]
      · rw [hv0, Int.zero_tdiv] at hv; exact absurd rfl hv
      · have k1 : 0 ≤ v.tdiv (4294967296 ^ w * q) := Int.tdiv_nonneg (by omega) (Int.le_of_lt kp)
        rw [Int.sign_eq_one_of_pos hv0, Int.sign_eq_one_of_pos (by omega)]
    · have ef : w32 ((i : Int) + (w : Int)) = ((w + i : Nat) : Int) := by rw [w32_id (by omega) (by omega)]; omega
      have eg : w32 (((w + i : Nat) : Int) + 1) = ((w + (i + 1) : Nat) : Int) := by rw [w32_id (by omega) (by omega)]; omega
      rw [ef] at hu hx
      rw [eg] at hx
      have eu : u = H i % 4294967296 := by
        rw [hu, hH]
        exact ext_ite (fun _ => by rw [mask_at, i3 _ (by omega)])
      have ex : x = H (i + 1) % 4294967296 := by
        rw [hx, hH]
        exact ext_ite (fun _ => by rw [mask_at, i3 _ (by omega)])
      have u0 : 0 ≤ u ∧ u < 4294967296 := by rw [eu]; exact ⟨Int.emod_nonneg _ (by decide), Int.emod_lt_of_pos _ (by decide)⟩
      have x0 : 0 ≤ x ∧ x < 4294967296 := by rw [ex]; exact ⟨Int.emod_nonneg _ (by decide), Int.emod_lt_of_pos _ (by decide)⟩
      have lim := shr_limb (b := b) x0.1 x0.2 u0.1 u0.2 hb q r hq r0 hqr
      have e8 : w32 ((i : Int) + 1) = ((i + 1 : Nat) : Int) := by rw [w32_id (by omega) (by omega)]; omega
      rw [e8]
      subst es
      refine ⟨bfr_pa f1, f2, f3, i + 1, rfl, by omega, fun k hk => ?_, fun k hk => ?_⟩
      · rw [row_up]
        by_cases ek : k = i
        · have b := shr9_b (H := H) q0 r0 hqr i
          rw [if_pos ek, lim, ek, eu, ex]
          exact Int.emod_eq_of_lt b.1 b.2
        · rw [if_neg ek]
          exact i2 k (by omega)
      · rw [row_up, if_neg (by omega)]
        exact i3 k (by omega)
  · have v0 : v = 0 := by
      by_cases h : v = 0
      · exact h
      · exfalso
        have c2 : s.1 a 2 = 0 := c2
        rw [h3] at c2
        rcases sign_ne h with h | h <;> omega
    subst v0
    rw [Int.zero_tdiv] at hQ
    exact hQ s ⟨n, h1, h2, h3, h4, h5⟩ (bfr_refl _ _)
