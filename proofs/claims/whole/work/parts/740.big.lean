/-! LONG NUMBERS OF THE CLASS BY VALUE -/
theorem cgf_pf (s : im_S) (a f b g : Nat) (x : Int) : cgf (cpf s a f x) b g = if b = a ∧ g = f then x else cgf s b g := rfl
theorem cga_pf (s : im_S) (a f b : Nat) (x i : Int) : cga (cpf s a f x) b i = cga s b i := rfl
theorem cgf_pa (s : im_S) (a b g : Nat) (i x : Int) : cgf (cpa s a i x) b g = cgf s b g := rfl
theorem cga_pa (s : im_S) (a b : Nat) (i j x : Int) : cga (cpa s a i x) b j = if b = a ∧ j.toNat = i.toNat then x else cga s b j := rfl
theorem cpa_row (s : im_S) (a : Nat) (i x : Int) (k : Nat) : (cpa s a i x).2 a k = if k = i.toNat then x else s.2 a k := by
  show im_up s.2 a i.toNat x a k = _
  unfold im_up
  by_cases h : k = i.toNat
  · rw [if_pos ⟨rfl, h⟩, if_pos h]
  · rw [if_neg (fun z => h z.2), if_neg h]
/-- only the long number a has changed -/
def bfr (a : Nat) (s s' : im_S) : Prop := (∀ c f, ¬ (c = a ∧ (f = 1 ∨ f = 2)) → s'.1 c f = s.1 c f) ∧ ∀ c, c ≠ a + 1 → s'.2 c = s.2 c
theorem bfr_refl (a : Nat) (s : im_S) : bfr a s s := ⟨fun _ _ _ => rfl, fun _ _ => rfl⟩
theorem bfr_trans {a : Nat} {s s' s2 : im_S} (h : bfr a s s') (h2 : bfr a s' s2) : bfr a s s2 := ⟨fun c f z => (h2.1 c f z).trans (h.1 c f z), fun c z => (h2.2 c z).trans (h.2 c z)⟩
theorem bfr_pf {a f : Nat} {s s' : im_S} {x : Int} (h : bfr a s s') (hf : f = 1 ∨ f = 2) : bfr a s (cpf s' a f x) := ⟨fun c g z => by
  rw [cpf_ne (fun e => z ⟨e.1, by rw [e.2]; exact hf⟩)]
  exact h.1 c g z, h.2⟩
theorem bfr_pa {a : Nat} {s s' : im_S} {i x : Int} (h : bfr a s s') : bfr a s (cpa s' (a + 1) i x) := ⟨h.1, fun c z => by
  rw [cpa_ne z]
  exact h.2 c z⟩
/-- the long number a is v -/
def big (s : im_S) (a : Nat) (v : Int) : Prop := ∃ n : Nat, s.1 a 1 = (n : Int) ∧ (n : Int) ≤ gln (a + 1) ∧ s.1 a 2 = v.sign ∧ bv (s.2 (a + 1)) n = (v.natAbs : Int) ∧ (0 < n → 4294967296 ^ (n - 1) ≤ (v.natAbs : Int))
theorem big_fr {s s' : im_S} {a b : Nat} {v : Int} (h : big s b v) (f : bfr a s s') (hab : b ≠ a) : big s' b v := by
  obtain ⟨n, h1, h2, h3, h4, h5⟩ := h
  refine ⟨n, ?_, h2, ?_, ?_, h5⟩
  · rw [f.1 b 1 (fun z => hab z.1)]; exact h1
  · rw [f.1 b 2 (fun z => hab z.1)]; exact h3
  · rw [f.2 (b + 1) (by omega)]; exact h4
theorem sign_ne {v : Int} (h : v ≠ 0) : v.sign = 1 ∨ v.sign = -1 := by
  rcases Int.lt_trichotomy v 0 with c | c | c
  · exact Or.inr (Int.sign_eq_neg_one_of_neg c)
  · exact absurd c h
  · exact Or.inl (Int.sign_eq_one_of_pos c)
theorem limb0 {x : Int} (h : iR x) : x % 4294967296 = 0 ↔ x = 0 := by
  have := h.1
  have := h.2
  omega
theorem big_n0 {s : im_S} {a n : Nat} {v : Int} (h4 : bv (s.2 (a + 1)) n = (v.natAbs : Int)) (h5 : 0 < n → 4294967296 ^ (n - 1) ≤ (v.natAbs : Int)) : n = 0 ↔ v = 0 := by
  constructor
  · intro e
    subst e
    rw [bv_0] at h4
    omega
  · intro e
    subst e
    rcases Nat.eq_zero_or_pos n with h | h
    · exact h
    · have h := h5 h
      have := w_pos (n - 1)
      simp at h
      omega
theorem trim_b {a n : Nat} {s : im_S} {v m : Int} {Q : im_S → Prop} (h1 : s.1 a 1 = (n : Int)) (h2 : (n : Int) ≤ gln (a + 1)) (h3 : s.1 a 2 = m) (h4 : bv (s.2 (a + 1)) n = (v.natAbs : Int)) (h5 : v ≠ 0 → m = v.sign) (hQ : ∀ s', big s' a v → bfr a s s' → s'.2 = s.2 → Q s') : C_trim1 a s Q := by
  have hg := (gln_r (a + 1)).2
  refine ⟨fun s' => bfr a s s' ∧ s'.2 = s.2 ∧ s'.1 a 2 = m ∧ ∃ k : Nat, s'.1 a 1 = (k : Int) ∧ k ≤ n ∧ bv (s.2 (a + 1)) k = (v.natAbs : Int), ⟨bfr_refl _ _, rfl, h3, n, h1, Nat.le_refl _, h4⟩, ?_⟩
  rintro s' ⟨f1, f2, f3, k, k1, k2, k3⟩
  have kc : cgf s' a 1 = (k : Int) := k1
  have fin : (0 < k → 4294967296 ^ (k - 1) ≤ (v.natAbs : Int)) → C_trim1_34 a s' Q := by
    intro hk
    refine ⟨fun c => ?_, fun c s3 e => ?_⟩
    · refine hQ s' ⟨k, k1, by omega, ?_, by rw [f2]; exact k3, hk⟩ f1 f2
      rw [f3]
      apply h5
      intro hv
      have := (big_n0 (s := s) k3 hk).mpr hv
      omega
    · subst e
      have k0 : k = 0 := by omega
      have hv := (big_n0 (s := s) k3 hk).mp k0
      refine hQ _ ⟨k, ?_, by omega, ?_, ?_, hk⟩ (bfr_pf f1 (Or.inr rfl)) f2
      · rw [cpf_ne (by omega)]; exact k1
      · rw [cpf_same, hv]; rfl
      · show bv (s'.2 (a + 1)) k = _
        rw [f2]; exact k3
  unfold C_trim1_0
  refine ⟨fun c => fin (by intro h0; omega), fun c hr => ?_⟩
  have e1 : w32 (cgf s' a 1 - 1) = ((k - 1 : Nat) : Int) := by rw [w32_id (by omega) (by omega), kc]; omega
  rw [e1] at hr ⊢
  have e2 : cga s' (a + 1) ((k - 1 : Nat) : Int) = s.2 (a + 1) (k - 1) := by
    show s'.2 (a + 1) ((k - 1 : Nat) : Int).toNat = _
    rw [f2, Int.toNat_natCast]
  rw [e2]
  have hr2 := hr.2
  rw [e2] at hr2
  have ek : k - 1 + 1 = k := by omega
  refine ⟨fun c2 => fin (fun _ => ?_), fun c2 s10 e => ?_⟩
  · have := bv_top (f := s.2 (a + 1)) (n := k - 1) (fun z => c2 ((limb0 hr2).mp z))
    rw [ek, k3] at this
    exact this
  · subst e
    refine ⟨bfr_pf f1 (Or.inl rfl), f2, ?_, k - 1, ?_, by omega, ?_⟩
    · rw [cpf_ne (by omega)]; exact f3
    · rw [cpf_same]
    · rw [← k3, ← bv_zero (f := s.2 (a + 1)) (n := k - 1) (by rw [c2]; decide), ek]
/-- how many limbs there is room for -/
def rm9 (a : Nat) : Nat := (gln (a + 1)).toNat
theorem min_J {x y : Int} {s : im_S} {Q : Int → im_S → Prop} (h : Q (min x y) s) : C_J9_min_7cf53 x y s Q := by
  intro v e
  have : v = min x y := by rw [e]; split <;> omega
  rw [this]; exact h
theorem max_J {x y : Int} {s : im_S} {Q : Int → im_S → Prop} (h : Q (max x y) s) : C_J9_max_7cf53 x y s Q := by
  intro v e
  have : v = max x y := by rw [e]; split <;> omega
  rw [this]; exact h
theorem cmp0_J {x : Int} {s : im_S} {Q : Int → im_S → Prop} (h : Q x.sign s) : C_J13_compare_74951 x 0 s Q := by
  intro v e
  have : v = x.sign := by
    rw [e]
    rcases Int.lt_trichotomy x 0 with c | c | c
    · rw [if_neg (by omega), Int.sign_eq_neg_one_of_neg c]
    · subst c; rfl
    · rw [if_pos (by omega), if_pos (by omega), Int.sign_eq_one_of_pos c]
  rw [this]; exact h
theorem abs_J {x : Int} {s : im_S} {Q : Int → im_S → Prop} (hx : lR x) (hx2 : x ≠ -9223372036854775808) (h : Q (x.natAbs : Int) s) : C_J9_abs_067f4 x s Q := by
  intro v e
  have := hx.1
  have := hx.2
  have : v = (x.natAbs : Int) := by
    rw [e]
    split
    · omega
    · rw [w64_id (by omega) (by omega)]; omega
  rw [this]; exact h
theorem set_b {a : Nat} {s : im_S} {v : Int} {Q : im_S → Prop} (hv : lR v) (hv2 : v ≠ -9223372036854775808) (hg : 2 ≤ gln (a + 1)) (hQ : ∀ s', big s' a v → bfr a s s' → Q s') : C_set1 a v s Q := by
  have hv1 := hv.1
  have hv3 := hv.2
  refine cmp0_J (fun s12 e12 s13 e13 => abs_J hv hv2 ?_)
  subst e12
  subst e13
  refine ⟨fun q => 0 ≤ q.1 ∧ bfr a s q.2 ∧ q.2.1 a 2 = v.sign ∧ ∃ k : Nat, q.2.1 a 1 = (k : Int) ∧ k ≤ 2 ∧ bv (q.2.2 (a + 1)) k + q.1 * 4294967296 ^ k = (v.natAbs : Int) ∧ (0 < k → 4294967296 ^ (k - 1) ≤ (v.natAbs : Int)), ⟨by omega, bfr_pf (bfr_pf (bfr_refl _ _) (Or.inr rfl)) (Or.inl rfl), ?_, 0, ?_, by omega, ?_, fun h => absurd h (by decide)⟩, ?_⟩
  · rw [cpf_ne (by omega), cpf_same]
  · rw [cpf_same]; rfl
  · show 0 + (v.natAbs : Int) * 4294967296 ^ 0 = _
    omega
  rintro ⟨r, s'⟩ ⟨r0, f1, f3, k, k1, k2, k3, k4⟩
  dsimp only at r0 f1 f3 k1 k3 ⊢
  have kc : cgf s' a 1 = (k : Int) := k1
  have fin : r = 0 → C_set1_62 s' Q := by
    intro hr
    subst hr
    refine hQ s' ⟨k, k1, by omega, f3, ?_, k4⟩ f1
    omega
  unfold C_set1_19
  refine ⟨fin, fun c => ⟨fun c2 => fin ?_, fun c2 hb s6 e6 s8 e8 => ?_⟩⟩
  · have e : k = 2 := by omega
    subst e
    have := bv_nn (s'.2 (a + 1)) 2
    omega
  · subst e6
    subst e8
    rw [kc] at hb ⊢
    have er : ushJ r 32 = r / 4294967296 := by
      rw [ushJ_32]
      have hr : r < 18446744073709551616 := by
        have := bv_nn (s'.2 (a + 1)) k
        rcases (show k = 0 ∨ k = 1 by omega) with e | e
        · subst e; omega
        · subst e; omega
      omega
    rw [er]
    have rowk : ∀ j, (cpa s' (a + 1) (k : Int) (w32 r)).2 (a + 1) j = if j = k then w32 r else s'.2 (a + 1) j := by
      intro j
      rw [cpa_row, Int.toNat_natCast]
    refine ⟨by omega, bfr_pf (bfr_pa f1) (Or.inl rfl), ?_, k + 1, ?_, by omega, ?_, fun _ => ?_⟩
    · rw [cpf_ne (by omega)]; exact f3
    · rw [cpf_same]
      show w32 (cgf s' a 1 + 1) = _
      rw [kc, w32_id (by omega) (by omega)]
      omega
    · show bv ((cpa s' (a + 1) (k : Int) (w32 r)).2 (a + 1)) (k + 1) + _ = _
      rw [bv_s, bv_congr (g := s'.2 (a + 1)) (fun i hi => by rw [rowk, if_neg (by omega)]), rowk, if_pos rfl, w32_mod]
      rcases (show k = 0 ∨ k = 1 by omega) with e | e
      · subst e; omega
      · subst e; omega
    · have := bv_nn (s'.2 (a + 1)) k
      rcases (show k = 0 ∨ k = 1 by omega) with e | e
      · subst e; show 4294967296 ^ 0 ≤ _; omega
      · subst e; show 4294967296 ^ 1 ≤ _; omega
theorem bfr_ccp {a c : Nat} {s s' : im_S} {p q n : Int} (h : bfr a s s') : bfr a s (ccp s' c (a + 1) p q n) := ⟨h.1, fun b z => by
  have e : (ccp s' c (a + 1) p q n).2 b = s'.2 b := by
    funext j
    show im_cp _ _ _ _ _ _ _ _ = _
    unfold im_cp
    rw [if_neg (fun e => z e.1)]
  rw [e]
  exact h.2 b z⟩
theorem big_sz {s : im_S} {a n : Nat} {v : Int} (h1 : (v.natAbs : Int) < 4294967296 ^ rm9 a) (h5 : 0 < n → 4294967296 ^ (n - 1) ≤ (v.natAbs : Int)) (_h : s.1 = s.1) : n ≤ rm9 a := by
  rcases Nat.eq_zero_or_pos n with h | h
  · omega
  · exact bv_size h (h5 h) h1
theorem copy_b {a b : Nat} {s : im_S} {v : Int} {Q : im_S → Prop} (hb : big s b v) (hab : a ≠ b) (hr : (v.natAbs : Int) < 4294967296 ^ rm9 a) (hg : 0 ≤ gln (a + 1)) (hQ : ∀ s', big s' a v → bfr a s s' → Q s') : C_copy1 a b s Q := by
  obtain ⟨n, h1, h2, h3, h4, h5⟩ := hb
  have hn := big_sz (s := s) hr h5 rfl
  unfold rm9 at hn
  have hc : cgf s b 1 = (n : Int) := h1
  refine min_J (fun s4 e4 h0 s6 e6 s8 e8 => ?_)
  have em : min (cgf s b 1) (gln (a + 1)) = (n : Int) := by omega
  rw [em] at e4
  subst e4
  have ec : cgf (cpf s a 1 (n : Int)) a 1 = (n : Int) := cpf_same _ _ _ _
  rw [ec] at e6
  subst e6
  subst e8
  refine hQ _ ⟨n, ?_, by omega, ?_, ?_, h5⟩ (bfr_pf (bfr_ccp (bfr_pf (bfr_refl _ _) (Or.inl rfl))) (Or.inr rfl))
  · rw [cpf_ne (by omega)]; exact cpf_same _ _ _ _
  · rw [cpf_same]
    show (cpf s a 1 (n : Int)).1 b 2 = _
    rw [cpf_ne (by omega)]
    exact h3
  · rw [← h4]
    refine bv_congr (fun i hi => ?_)
    show im_cp (cpf s a 1 (n : Int)).2 (b + 1) (a + 1) (0 : Int).toNat (0 : Int).toNat (n : Int).toNat (a + 1) i % 4294967296 = _
    unfold im_cp
    have e0 : (0 : Int).toNat = 0 := rfl
    rw [e0, Int.toNat_natCast, if_pos ⟨rfl, by omega, by omega⟩]
    show s.2 (b + 1) (0 + (i - 0)) % 4294967296 = _
    rw [Nat.sub_zero, Nat.zero_add]
theorem isEven_b {a : Nat} {s : im_S} {v : Int} {Q : Int → im_S → Prop} (hb : big s a v) (hQ : Q (if v % 2 = 0 then 1 else 0) s) : C_isEven1 a s Q := by
  obtain ⟨n, h1, h2, h3, h4, h5⟩ := hb
  intro z e
  have : z = if v % 2 = 0 then 1 else 0 := by
    rw [e]
    have hc : cgf s a 1 = (n : Int) := h1
    by_cases hn : n = 0
    · have hv := (big_n0 (s := s) h4 h5).mp hn
      subst hv
      rw [if_pos (by omega)]
      rfl
    · rw [if_neg (by omega), andI_1]
      obtain ⟨m, rfl⟩ : ∃ m, n = m + 1 := ⟨n - 1, by omega⟩
      rw [bv_shift] at h4
      have e0 : cga s (a + 1) 0 = s.2 (a + 1) 0 := rfl
      rw [e0]
      generalize s.2 (a + 1) 0 = x at *
      have hx : x % 4294967296 % 2 = x % 2 := by omega
      generalize bv (fun i => s.2 (a + 1) (i + 1)) m = y at *
      by_cases hv : v % 2 = 0
      · rw [if_pos hv, if_neg (by omega)]
      · rw [if_neg hv, if_pos (by omega)]
  rw [this]; exact hQ
theorem limb_step (t p : Int) : (t % 4294967296) * p + (t / 4294967296) * (4294967296 * p) = t * p := by
  have h : t = t % 4294967296 + t / 4294967296 * 4294967296 := by omega
  have e : (t / 4294967296) * (4294967296 * p) = (t / 4294967296 * 4294967296) * p := (Int.mul_assoc _ _ _).symm
  rw [e, ← Int.add_mul, ← h]
/-- nothing behind the first n limbs -/
def ext (f : Nat → Int) (n : Nat) : Nat → Int := fun k => if k < n then f k else 0
theorem bv_ext {f : Nat → Int} {n m : Nat} (h : n ≤ m) : bv (ext f n) m = bv f n := by
  rw [bv_zeros (f := ext f n) (n := n) h (fun i h1 _ => by unfold ext; rw [if_neg (by omega)]; rfl)]
  exact bv_congr (fun i hi => by unfold ext; rw [if_pos hi])
theorem ext_ite {f : Nat → Int} {n k : Nat} {x : Int} (hx : k < n → x = f k % 4294967296) : (if (n : Int) ≤ (k : Int) then 0 else x) = ext f n k % 4294967296 := by
  unfold ext
  by_cases h : k < n
  · rw [if_neg (by omega), if_pos h, hx h]
  · rw [if_pos (by omega), if_neg h]; rfl
theorem mask_at {s : im_S} {a k : Nat} : andJ (cga s (a + 1) (k : Int)) 4294967295 = s.2 (a + 1) k % 4294967296 := by
  rw [andJ_mask]
  show s.2 (a + 1) ((k : Nat) : Int).toNat % _ = _
  rw [Int.toNat_natCast]
theorem add_step {row row' : Nat → Int} {i : Nat} {c t X x : Int} (h : bv row i + c * 4294967296 ^ i = X) (h1 : ∀ k, k < i → row' k = row k) (h2 : row' i % 4294967296 = t % 4294967296) (ht : t = c + x) : bv row' (i + 1) + (t / 4294967296) * 4294967296 ^ (i + 1) = X + x * 4294967296 ^ i := by
  rw [bv_s, bv_congr (g := row) (fun k hk => by rw [h1 k hk]), h2, w_succ]
  have e := limb_step t (4294967296 ^ i)
  have e2 : t * 4294967296 ^ i = c * 4294967296 ^ i + x * 4294967296 ^ i := by rw [ht, Int.add_mul]
  omega
theorem row_up {s : im_S} {a i : Nat} {x : Int} {k : Nat} : (cpa s a (i : Int) x).2 a k = if k = i then x else s.2 a k := by
  rw [cpa_row, Int.toNat_natCast]
/-- two rows with their sum below i, and the second at its end -/
theorem bv_rest {row A B : Nat → Int} {na nb j : Nat} (h : bv row j = bv (ext A na) j + bv (ext B nb) j) (h2 : ∀ k, j ≤ k → row k = A k) (hj : nb ≤ j) : bv row (max na j) = bv A na + bv B nb := by
  by_cases hn : na ≤ j
  · have e : max na j = j := by omega
    rw [e, h, bv_ext hn, bv_ext hj]
  · obtain ⟨m, rfl⟩ : ∃ m, na = j + m := ⟨na - j, by omega⟩
    have e : max (j + m) j = j + m := by omega
    rw [e, bv_add row j m, h, bv_ext hj]
    have e1 : bv (ext A (j + m)) j = bv A j := bv_congr (fun k hk => by unfold ext; rw [if_pos (by omega)])
    have e2 : bv (fun i => row (j + i)) m = bv (fun i => A (j + i)) m := bv_congr (fun k hk => by rw [h2 _ (by omega)])
    rw [e1, e2, bv_add A j m]
    omega
theorem grow_b {a b na nb : Nat} {s : im_S} {A B : Int} {Q : im_S → Prop} (hab : a ≠ b) (g0 : 0 ≤ gln (a + 1)) (a1 : s.1 a 1 = (na : Int)) (a4 : bv (s.2 (a + 1)) na = A) (a5 : 0 < na → 4294967296 ^ (na - 1) ≤ A) (a6 : na ≤ rm9 a) (b1 : s.1 b 1 = (nb : Int)) (b4 : bv (s.2 (b + 1)) nb = B) (b5 : 0 < nb → 4294967296 ^ (nb - 1) ≤ B) (hr : A + B < 4294967296 ^ rm9 a) (hQ : ∀ (s' : im_S) (n : Nat), s'.1 a 1 = (n : Int) → n ≤ rm9 a → s'.1 a 2 = s.1 a 2 → bv (s'.2 (a + 1)) n = A + B → (0 < n → 4294967296 ^ (n - 1) ≤ A + B) → bfr a s s' → Q s') : C_grow1 a b s Q := by
  have hg := (gln_r (a + 1)).2
  have hA : 0 ≤ A := by rw [← a4]; exact bv_nn _ _
  have hB : 0 ≤ B := by rw [← b4]; exact bv_nn _ _
  have hnb : nb ≤ rm9 a := by
    rcases Nat.eq_zero_or_pos nb with h | h
    · omega
    · exact bv_size h (b5 h) (by omega)
  have hrm : (rm9 a : Int) = gln (a + 1) := by unfold rm9; omega
  have bc : cgf s b 1 = (nb : Int) := b1
  refine min_J ?_
  have em : min (cgf s b 1) (gln (a + 1)) = (nb : Int) := by omega
  rw [em]
  refine ⟨fun q => (0 ≤ q.1 ∧ q.1 ≤ 1) ∧ bfr a s q.2.2 ∧ q.2.2.1 a 1 = (na : Int) ∧ q.2.2.1 a 2 = s.1 a 2 ∧ ∃ i : Nat, q.2.1 = (i : Int) ∧ i ≤ nb ∧ bv (q.2.2.2 (a + 1)) i + q.1 * 4294967296 ^ i = bv (ext (s.2 (a + 1)) na) i + bv (ext (s.2 (b + 1)) nb) i ∧ ∀ k, i ≤ k → q.2.2.2 (a + 1) k = s.2 (a + 1) k, ⟨⟨Int.le_refl _, Int.le_of_lt (by decide : (0 : Int) < 1)⟩, bfr_refl _ _, a1, rfl, 0, rfl, by omega, rfl, fun _ _ => rfl⟩, ?_⟩
  rintro ⟨c, l5, s'⟩ ⟨⟨c0, c1⟩, f1, f2, f3, i, e1, i1, i2, i3⟩
  dsimp only at c0 c1 f1 f2 f3 e1 i2 i3 ⊢
  subst e1
  have fc : cgf s' a 1 = (na : Int) := f2
  unfold C_grow1_19
  refine ⟨fun h => ?_, fun h hca v hv hb s4 e4 => ?_⟩
  · have e : i = nb := by omega
    subst e
    refine max_J (fun s5 e5 => ?_)
    have em : max (cgf s' a 1) (i : Int) = ((max na i : Nat) : Int) := by omega
    rw [em] at e5
    subst e5
    refine ⟨fun q => (0 ≤ q.1 ∧ q.1 ≤ 1) ∧ bfr a s q.2.2 ∧ q.2.2.1 a 2 = s.1 a 2 ∧ ∃ j : Nat, q.2.1 = (j : Int) ∧ i ≤ j ∧ j ≤ rm9 a ∧ q.2.2.1 a 1 = ((max na j : Nat) : Int) ∧ bv (q.2.2.2 (a + 1)) j + q.1 * 4294967296 ^ j = bv (ext (s.2 (a + 1)) na) j + bv (ext (s.2 (b + 1)) i) j ∧ (∀ k, j ≤ k → q.2.2.2 (a + 1) k = s.2 (a + 1) k) ∧ (i < j → na < j → 4294967296 ^ (j - 1) ≤ A + B), ⟨⟨c0, c1⟩, bfr_pf f1 (Or.inl rfl), ?_, i, rfl, Nat.le_refl _, hnb, cpf_same _ _ _ _, i2, i3, fun h => absurd h (by omega)⟩, ?_⟩
    · rw [cpf_ne (by omega)]; exact f3
    clear i2 i3 f1 f2 f3 fc c0 c1 em
    rintro ⟨c, l5, s'⟩ ⟨⟨c0, c1⟩, f1, f3, j, e1, j0, j1, f2, j2, j3, j4⟩
    dsimp only at c0 c1 f1 f2 f3 e1 j2 j3 ⊢
    subst e1
    have fc : cgf s' a 1 = ((max na j : Nat) : Int) := f2
    have tot : na ≤ j → bv (ext (s.2 (a + 1)) na) j + bv (ext (s.2 (b + 1)) i) j = A + B := by
      intro h1
      rw [bv_ext h1, bv_ext j0, a4, b4]
    have fin : c = 0 → C_grow1_179 s' Q := by
      intro hc
      subst hc
      refine hQ s' (max na j : Nat) f2 (by omega) f3 ?_ (fun h0 => ?_) f1
      · rw [← a4, ← b4]
        exact bv_rest (by omega) j3 j0
      · by_cases hj : na < j
        · have e : (max na j : Nat) = j := by omega
          rw [e]
          by_cases hi : i < j
          · exact j4 hi hj
          · have e2 : j = i := by omega
            subst e2
            have := b5 (by omega)
            omega
        · have e : (max na j : Nat) = na := by omega
          rw [e]
          have := a5 (by omega)
          omega
    unfold C_grow1_100
    refine ⟨fun hc => fin hc, fun hc => ⟨fun h => ?_, fun h v hv hb s4 e4 => max_J (fun s5 e5 => ?_)⟩⟩
    · exfalso
      have e : j = rm9 a := by omega
      have t := tot (by omega)
      rw [← e] at hr
      have := bv_nn (s'.2 (a + 1)) j
      have e1 : c = 1 := by omega
      subst e1
      omega
    · have hv : v = ext (s.2 (a + 1)) na j % 4294967296 := by
        rw [hv, ← ext_ite (x := andJ (cga s' (a + 1) (j : Int)) 4294967295) (fun _ => by rw [mask_at, j3 j (Nat.le_refl _)]), fc]
        by_cases hn : na ≤ j
        · rw [if_pos (by omega), if_pos (by omega)]
        · rw [if_neg (by omega), if_neg (by omega)]
      have v0 : 0 ≤ v := by rw [hv]; exact Int.emod_nonneg _ (by decide)
      have v1 : v < 4294967296 := by rw [hv]; exact Int.emod_lt_of_pos _ (by decide)
      have e6 : w64 (c + v) = c + v := w64_id (by omega) (by omega)
      rw [e6] at e4 ⊢
      have e7 : ushJ (c + v) 32 = (c + v) / 4294967296 := by rw [ushJ_32]; omega
      rw [e7]
      have e8 : w32 ((j : Int) + 1) = ((j + 1 : Nat) : Int) := by rw [w32_id (by omega) (by omega)]; omega
      rw [e8] at e5 ⊢
      subst e4
      have e9 : max (cgf (cpa s' (a + 1) (j : Int) (w32 (c + v))) a 1) ((j + 1 : Nat) : Int) = ((max na (j + 1) : Nat) : Int) := by
        rw [cgf_pa, fc]; omega
      rw [e9] at e5
      subst e5
      refine ⟨⟨by omega, by omega⟩, bfr_pf (bfr_pa f1) (Or.inl rfl), ?_, j + 1, rfl, by omega, by omega, cpf_same _ _ _ _, ?_, fun k hk => ?_, fun _ h2 => ?_⟩
      · rw [cpf_ne (by omega)]; exact f3
      · have st := add_step (row := s'.2 (a + 1)) (row' := (cpa s' (a + 1) (j : Int) (w32 (c + v))).2 (a + 1)) (i := j) (c := c) (t := c + v) (x := v) j2 (fun k hk => by rw [row_up, if_neg (by omega)]) (by rw [row_up, if_pos rfl, w32_mod]) rfl
        show bv ((cpa s' (a + 1) (j : Int) (w32 (c + v))).2 (a + 1)) (j + 1) + _ = _
        rw [st, bv_s (ext (s.2 (a + 1)) na), bv_s (ext (s.2 (b + 1)) i), ← hv]
        have e0 : ext (s.2 (b + 1)) i j = 0 := by unfold ext; rw [if_neg (by omega)]
        rw [e0]
        simp
        omega
      · show (cpa s' (a + 1) (j : Int) (w32 (c + v))).2 (a + 1) k = _
        rw [row_up, if_neg (by omega)]
        exact j3 k (by omega)
      · have t := tot (by omega)
        have := bv_nn (s'.2 (a + 1)) j
        have e1 : c = 1 := by omega
        subst e1
        show 4294967296 ^ j ≤ _
        omega
  · have hb2 := hca.2
    have hx : andJ (cga s' (b + 1) (i : Int)) 4294967295 = ext (s.2 (b + 1)) nb i % 4294967296 := by
      rw [mask_at, f1.2 (b + 1) (by omega)]
      unfold ext
      rw [if_pos (by omega)]
    have hv : v = ext (s.2 (a + 1)) na i % 4294967296 := by
      rw [hv, ← ext_ite (x := andJ (cga s' (a + 1) (i : Int)) 4294967295) (fun _ => by rw [mask_at, i3 i (Nat.le_refl _)]), fc]
    have v0 : 0 ≤ v := by rw [hv]; exact Int.emod_nonneg _ (by decide)
    have v1 : v < 4294967296 := by rw [hv]; exact Int.emod_lt_of_pos _ (by decide)
    generalize hX : ext (s.2 (b + 1)) nb i % 4294967296 = x at *
    have x0 : 0 ≤ x := by rw [← hX]; exact Int.emod_nonneg _ (by decide)
    have x1 : x < 4294967296 := by rw [← hX]; exact Int.emod_lt_of_pos _ (by decide)
    rw [hx] at e4 ⊢
    have e6 : w64 (c + w64 (x + v)) = c + (x + v) := by rw [w64_id (x := x + v) (by omega) (by omega), w64_id (by omega) (by omega)]
    rw [e6] at e4 ⊢
    have e7 : ushJ (c + (x + v)) 32 = (c + (x + v)) / 4294967296 := by rw [ushJ_32]; omega
    rw [e7]
    have e8 : w32 ((i : Int) + 1) = ((i + 1 : Nat) : Int) := by rw [w32_id (by omega) (by omega)]; omega
    rw [e8]
    subst e4
    refine ⟨⟨by omega, by omega⟩, bfr_pa f1, f2, f3, i + 1, rfl, by omega, ?_, fun k hk => ?_⟩
    · have st := add_step (row := s'.2 (a + 1)) (row' := (cpa s' (a + 1) (i : Int) (w32 (c + (x + v)))).2 (a + 1)) (i := i) (c := c) (t := c + (x + v)) (x := x + v) i2 (fun k hk => by rw [row_up, if_neg (by omega)]) (by rw [row_up, if_pos rfl, w32_mod]) rfl
      rw [st, bv_s (ext (s.2 (a + 1)) na), bv_s (ext (s.2 (b + 1)) nb), ← hv, hX, Int.add_mul]
      omega
    · rw [row_up, if_neg (by omega)]
      exact i3 k (by omega)
