/-! WHAT A RUN LEAVES IF IT ENDS: steps that ask for nothing -/
def w32 (x : Int) : Int := (Int32.ofInt x).toInt
def w64 (x : Int) : Int := (Int64.ofInt x).toInt
theorem w32_r (x : Int) : iR (w32 x) := ⟨by have := (Int32.ofInt x).le_toInt; unfold w32; omega, by have := (Int32.ofInt x).toInt_lt; unfold w32; omega⟩
theorem w64_r (x : Int) : lR (w64 x) := ⟨by have := (Int64.ofInt x).le_toInt; unfold w64; omega, by have := (Int64.ofInt x).toInt_lt; unfold w64; omega⟩
theorem w32_id {x : Int} (h1 : -2147483648 ≤ x) (h2 : x ≤ 2147483647) : w32 x = x := im_bm h1 h2
theorem w64_id {x : Int} (h1 : -9223372036854775808 ≤ x) (h2 : x ≤ 9223372036854775807) : w64 x = x := im_bmJ h1 h2
def i2 (f : Int32 → Int32 → Int32) (x y : Int) : Int := (f (Int32.ofInt x) (Int32.ofInt y)).toInt
def j2 (f : Int64 → Int64 → Int64) (x y : Int) : Int := (f (Int64.ofInt x) (Int64.ofInt y)).toInt
def ji2 (f : Int64 → Int32 → Int64) (x y : Int) : Int := (f (Int64.ofInt x) (Int32.ofInt y)).toInt
theorem i2_r (f : Int32 → Int32 → Int32) (x y : Int) : iR (i2 f x y) := ⟨by have := (f (Int32.ofInt x) (Int32.ofInt y)).le_toInt; unfold i2; omega, by have := (f (Int32.ofInt x) (Int32.ofInt y)).toInt_lt; unfold i2; omega⟩
theorem j2_r (f : Int64 → Int64 → Int64) (x y : Int) : lR (j2 f x y) := ⟨by have := (f (Int64.ofInt x) (Int64.ofInt y)).le_toInt; unfold j2; omega, by have := (f (Int64.ofInt x) (Int64.ofInt y)).toInt_lt; unfold j2; omega⟩
theorem ji2_r (f : Int64 → Int32 → Int64) (x y : Int) : lR (ji2 f x y) := ⟨by have := (f (Int64.ofInt x) (Int32.ofInt y)).le_toInt; unfold ji2; omega, by have := (f (Int64.ofInt x) (Int32.ofInt y)).toInt_lt; unfold ji2; omega⟩
def andI (x y : Int) : Int := i2 (fun x y => x &&& y) x y
def orI (x y : Int) : Int := i2 (fun x y => x ||| y) x y
def xorI (x y : Int) : Int := i2 (fun x y => x ^^^ y) x y
def shlI (x y : Int) : Int := i2 (fun x y => x <<< (y &&& 31)) x y
def shrI (x y : Int) : Int := i2 (fun x y => x >>> (y &&& 31)) x y
def ushI (x y : Int) : Int := i2 (fun x y => (x.toUInt32 >>> (y.toUInt32 &&& Int32.toUInt32 31)).toInt32) x y
def divI (x y : Int) : Int := i2 (fun x y => x / y) x y
def remI (x y : Int) : Int := i2 (fun x y => x - x / y * y) x y
def andJ (x y : Int) : Int := j2 (fun x y => x &&& y) x y
def orJ (x y : Int) : Int := j2 (fun x y => x ||| y) x y
def xorJ (x y : Int) : Int := j2 (fun x y => x ^^^ y) x y
def divJ (x y : Int) : Int := j2 (fun x y => x / y) x y
def remJ (x y : Int) : Int := j2 (fun x y => x - x / y * y) x y
def shlJ (x y : Int) : Int := ji2 (fun x y => x <<< (y.toInt64 &&& 63)) x y
def shrJ (x y : Int) : Int := ji2 (fun x y => x >>> (y.toInt64 &&& 63)) x y
def ushJ (x y : Int) : Int := ji2 (fun x y => (x.toUInt64 >>> (y.toInt64.toUInt64 &&& Int64.toUInt64 63)).toInt64) x y
/-- the class's fields and rows -/
def cgf (s : im_S) (a f : Nat) : Int := s.1 a f
def cga (s : im_S) (a : Nat) (i : Int) : Int := s.2 a i.toNat
def crf (s : im_S) (a f : Nat) : Nat := (s.1 a f).toNat
def cpf (s : im_S) (a f : Nat) (x : Int) : im_S := (im_up s.1 a f x, s.2)
def cpa (s : im_S) (a : Nat) (i x : Int) : im_S := (s.1, im_up s.2 a i.toNat x)
def ccp (s : im_S) (a b : Nat) (sp dp n : Int) : im_S := (s.1, im_cp s.2 a b sp.toNat dp.toNat n.toNat)
def gln (a : Nat) : Int := (((gG[a]?.map (fun d => d.2.1)).getD 0 : Nat) : Int)
def cty : List (List Nat) := [[3, 3, 0, 3, 3, 3, 3, 3], [3, 0, 0], [3, 3, 3, 3, 3, 3, 3, 3], [3, 3, 3, 0, 3, 3, 3, 3, 3, 3, 3, 3, 3, 3, 3, 3, 3], [3, 3, 3, 3, 0, 3, 3, 0, 0, 0, 0, 3, 3], [3, 3, 3, 3, 0, 0], [0, 3], [3, 0, 0, 0, 0, 0, 3, 3, 3, 3, 3, 0, 3, 0], [0, 2, 1, 1, 1, 1, 3, 0, 0, 0], [0, 0, 0, 2, 3, 3, 3, 3], [3, 0, 0, 0, 0, 2, 0, 3, 3, 3, 0, 3, 0, 3, 3, 3, 3, 3, 3, 3, 3, 0, 3, 3, 0, 0, 3, 3, 0, 0, 3, 3, 0, 0, 0, 3, 0, 3, 3, 3, 3, 0, 3, 3, 3, 3, 3, 3, 3, 3, 3, 3, 0, 3, 3]]
set_option maxRecDepth 100000 in
theorem cty_all : gG.all (fun d => !(d.1 == 0) || d.2.2 == cty.getD d.2.1 []) = true := by decide +kernel
theorem cty_ok {a ci : Nat} {tys : List Nat} (h : gG[a]? = some (0, ci, tys)) : tys = cty.getD ci [] := by
  have z := List.all_eq_true.mp cty_all _ (List.mem_of_getElem? h)
  simpa using z
set_option maxRecDepth 100000 in
theorem gln_all : gG.all (fun d => decide (d.2.1 < 2147483648)) = true := by decide +kernel
theorem gln_ok {a t n : Nat} {z : List Nat} (h : gG[a]? = some (t, n, z)) : (Int32.ofNat n).toInt = gln a := by
  have h2 := List.all_eq_true.mp gln_all _ (List.mem_of_getElem? h)
  have h2 : n < 2147483648 := by simpa using h2
  unfold gln
  rw [h]
  show _ = ((n : Nat) : Int)
  rw [Int32.toInt_ofNat']
  have e : (Int32.size : Nat) = 4294967296 := rfl
  rw [Int.bmod_eq_of_le] <;> omega
/-- references that never change: a class's field (0: the next cell), a row's places -/
def cT : List (Nat × Nat × Nat) := [(0, 0, 85), (0, 1, 246), (0, 3, 247), (0, 4, 259), (0, 5, 261), (0, 6, 263), (0, 7, 265), (1, 0, 0), (2, 0, 248), (2, 1, 249), (2, 2, 250), (2, 5, 253), (2, 6, 255), (2, 7, 257), (3, 0, 84), (3, 1, 267), (3, 2, 310), (3, 4, 551), (3, 5, 553), (3, 6, 555), (3, 7, 557), (3, 8, 559), (3, 9, 561), (3, 10, 563), (3, 11, 565), (3, 12, 567), (4, 0, 2), (4, 1, 83), (4, 2, 84), (4, 3, 577), (4, 5, 578), (4, 6, 579), (4, 11, 580), (4, 12, 581), (5, 0, 268), (5, 1, 269), (5, 2, 306), (5, 3, 308), (6, 1, 0), (7, 0, 3), (7, 6, 4), (7, 7, 57), (7, 8, 59), (7, 9, 60), (7, 10, 81), (7, 12, 82), (8, 6, 0), (9, 4, 1), (9, 5, 2), (9, 6, 83), (9, 7, 84)]
def cU : List (Nat × Nat × Nat × Nat) := [(4, 5, 2, 26), (60, 61, 2, 10), (85, 86, 2, 80), (268, 270, 4, 9), (269, 272, 4, 9), (310, 311, 3, 80)]
def cI (s : im_S) : Prop := (∀ a ci tys, gG[a]? = some (0, ci, tys) → ∀ f v, (ci, f, v) ∈ cT → s.1 a f = ((if v = 0 then a + 1 else v : Nat) : Int)) ∧ ∀ c b k n, (c, b, k, n) ∈ cU → ∀ i : Nat, i < n → s.2 c i = ((b + k * i : Nat) : Int)
def oI (s : im_S) : Prop := (s.1 308 1 = 1 ∧ s.1 308 2 = 1 ∧ s.2 309 0 = 1) ∧ s.1 553 1 = 1 ∧ s.1 553 2 = 1 ∧ s.2 554 0 = 1
def m4 (x : Int) : Prop := x = 569 ∨ x = 571 ∨ x = 573 ∨ x = 575
def m2 (x : Int) : Prop := x = 251 ∨ x = 252
def mI (s : im_S) : Prop := (m4 (s.1 83 13) ∧ m4 (s.1 83 14) ∧ m4 (s.1 83 15) ∧ m4 (s.1 83 16)) ∧ m2 (s.1 247 3) ∧ m2 (s.1 247 4)
def jI (s : im_S) : Prop := cI s ∧ oI s ∧ mI s
/-- a long number that may be written -/
def nb (a : Nat) : Prop := a ≠ 308 ∧ a ≠ 553
theorem cT_fin : cT.all (fun q => rm_fin q.1 q.2.1) = true := by decide +kernel
theorem cU_ty : cU.all (fun q => decide (6 ≤ ((gG[q.1]?.map (fun d => d.1)).getD 0))) = true := by decide +kernel
theorem g_308 : gG[308]? = some (0, 1, [3, 0, 0]) ∧ gG[553]? = some (0, 1, [3, 0, 0]) ∧ gG[83]? = some (0, 3, cty.getD 3 []) ∧ gG[247]? = some (0, 2, cty.getD 2 []) := by decide +kernel
theorem g_309 : gG[309]? = some (1, 2, []) ∧ gG[554]? = some (1, 2, []) := by decide +kernel
theorem cI_pf {s : im_S} {a f ci : Nat} {tys : List Nat} {x : Int} (h : cI s) (hG : gG[a]? = some (0, ci, tys)) (hf : rm_fin ci f = false) : cI (cpf s a f x) := by
  refine ⟨fun b cj t hb g v hv => ?_, h.2⟩
  by_cases e : b = a ∧ g = f
  · obtain ⟨rfl, rfl⟩ := e
    rw [hG] at hb
    cases hb
    have z := List.all_eq_true.mp cT_fin _ hv
    dsimp only at z
    rw [hf] at z
    cases z
  · show im_up s.1 a f x b g = _
    rw [im_up_ne e]
    exact h.1 b cj t hb g v hv
theorem cI_row {s s' : im_S} (h : cI s) (e1 : s'.1 = s.1) (e2 : ∀ c b k n, (c, b, k, n) ∈ cU → s'.2 c = s.2 c) : cI s' := by
  refine ⟨fun a ci t ha f v hv => ?_, fun c b k n hc i hi => ?_⟩
  · rw [e1]; exact h.1 a ci t ha f v hv
  · rw [e2 c b k n hc]; exact h.2 c b k n hc i hi
theorem cU_ne {a t n : Nat} {z : List Nat} (hG : gG[a]? = some (t, n, z)) (ht : t < 6) {c b k m : Nat} (hc : (c, b, k, m) ∈ cU) : c ≠ a := by
  intro e
  subst e
  have z := List.all_eq_true.mp cU_ty _ hc
  rw [hG] at z
  have z : 6 ≤ t := by simpa using z
  omega
theorem cpa_ne {s : im_S} {a c : Nat} {i x : Int} (h : c ≠ a) : (cpa s a i x).2 c = s.2 c := by
  funext j
  exact im_up_ne (fun e => h e.1)
theorem cpf_ne {s : im_S} {a b f g : Nat} {x : Int} (h : ¬ (b = a ∧ g = f)) : (cpf s a f x).1 b g = s.1 b g := im_up_ne h
theorem cpf_same (s : im_S) (a f : Nat) (x : Int) : (cpf s a f x).1 a f = x := im_up_same _ _ _ _
theorem ccp_ne {s : im_S} {a b c : Nat} {p q n : Int} (h : c ≠ b) : (ccp s a b p q n).2 c = s.2 c := by
  funext j
  show im_cp _ _ _ _ _ _ _ _ = _
  unfold im_cp
  rw [if_neg (fun e => h e.1)]
/-- a field of a long number -/
theorem jI_pB {s : im_S} {a f : Nat} {tys : List Nat} {x : Int} (h : jI s) (hG : gG[a]? = some (0, 1, tys)) (hf : rm_fin 1 f = false) (hn : nb a) : jI (cpf s a f x) := by
  have n3 := g_308.2.2.1
  have n4 := g_308.2.2.2
  have e : ∀ b g, b ≠ a → (cpf s a f x).1 b g = s.1 b g := fun b g hb => cpf_ne (fun z => hb z.1)
  have e3 : (83 : Nat) ≠ a := by intro z; subst z; rw [n3] at hG; cases hG
  have e4 : (247 : Nat) ≠ a := by intro z; subst z; rw [n4] at hG; cases hG
  refine ⟨cI_pf h.1 hG hf, ?_, ?_⟩
  · obtain ⟨⟨h1, h2, h3⟩, h4, h5, h6⟩ := h.2.1
    refine ⟨⟨?_, ?_, h3⟩, ?_, ?_, h6⟩
    · rw [e _ _ (Ne.symm hn.1)]; exact h1
    · rw [e _ _ (Ne.symm hn.1)]; exact h2
    · rw [e _ _ (Ne.symm hn.2)]; exact h4
    · rw [e _ _ (Ne.symm hn.2)]; exact h5
  · obtain ⟨⟨h1, h2, h3, h4⟩, h5, h6⟩ := h.2.2
    refine ⟨⟨?_, ?_, ?_, ?_⟩, ?_, ?_⟩
    · rw [e _ _ e3]; exact h1
    · rw [e _ _ e3]; exact h2
    · rw [e _ _ e3]; exact h3
    · rw [e _ _ e3]; exact h4
    · rw [e _ _ e4]; exact h5
    · rw [e _ _ e4]; exact h6
/-- any other field -/
theorem jI_pX {s : im_S} {a f ci : Nat} {tys : List Nat} {x : Int} (h : jI s) (hG : gG[a]? = some (0, ci, tys)) (hf : rm_fin ci f = false) (h1 : ci ≠ 1) (h3 : ci = 3 → f < 13 ∨ m4 x) (h2 : ci = 2 → m2 x) : jI (cpf s a f x) := by
  have e1 : a ≠ 308 := by intro z; subst z; rw [g_308.1] at hG; cases hG; exact h1 rfl
  have e2 : a ≠ 553 := by intro z; subst z; rw [g_308.2.1] at hG; cases hG; exact h1 rfl
  refine ⟨cI_pf h.1 hG hf, ?_, ?_⟩
  · obtain ⟨⟨h1, h2, h3⟩, h4, h5, h6⟩ := h.2.1
    refine ⟨⟨?_, ?_, h3⟩, ?_, ?_, h6⟩
    · rw [cpf_ne (fun z => e1 z.1.symm)]; exact h1
    · rw [cpf_ne (fun z => e1 z.1.symm)]; exact h2
    · rw [cpf_ne (fun z => e2 z.1.symm)]; exact h4
    · rw [cpf_ne (fun z => e2 z.1.symm)]; exact h5
  · have k3 : ∀ g, 13 ≤ g → m4 (s.1 83 g) → m4 ((cpf s a f x).1 83 g) := by
      intro g hg hm
      by_cases e : 83 = a ∧ g = f
      · obtain ⟨rfl, rfl⟩ := e
        rw [cpf_same]
        have hc : ci = 3 := by rw [g_308.2.2.1] at hG; cases hG; rfl
        rcases h3 hc with z | z
        · omega
        · exact z
      · rw [cpf_ne e]; exact hm
    have k2 : ∀ g, m2 (s.1 247 g) → m2 ((cpf s a f x).1 247 g) := by
      intro g hm
      by_cases e : 247 = a ∧ g = f
      · obtain ⟨rfl, rfl⟩ := e
        rw [cpf_same]
        have hc : ci = 2 := by rw [g_308.2.2.2] at hG; cases hG; rfl
        exact h2 hc
      · rw [cpf_ne e]; exact hm
    obtain ⟨⟨h1, h2, h3, h4⟩, h5, h6⟩ := h.2.2
    exact ⟨⟨k3 _ (by decide) h1, k3 _ (by decide) h2, k3 _ (by decide) h3, k3 _ (by decide) h4⟩, k2 _ h5, k2 _ h6⟩
theorem jI_row {s s' : im_S} (h : jI s) (e1 : s'.1 = s.1) (e2 : ∀ c b k n, (c, b, k, n) ∈ cU → s'.2 c = s.2 c) (e3 : s'.2 309 = s.2 309) (e4 : s'.2 554 = s.2 554) : jI s' := by
  refine ⟨cI_row h.1 e1 e2, ?_, ?_⟩
  · unfold oI; rw [e1, e3, e4]; exact h.2.1
  · unfold mI; rw [e1]; exact h.2.2
/-- a row that is no long number's -/
theorem jI_pa {s : im_S} {a t n : Nat} {z : List Nat} {i x : Int} (h : jI s) (hG : gG[a]? = some (t, n, z)) (ht : t < 6) (h1 : a ≠ 309) (h2 : a ≠ 554) : jI (cpa s a i x) :=
  jI_row h rfl (fun _ _ _ _ hc => cpa_ne (cU_ne hG ht hc)) (cpa_ne (Ne.symm h1)) (cpa_ne (Ne.symm h2))
theorem jI_cp {s : im_S} {a b n : Nat} {z : List Nat} {p q m : Int} (h : jI s) (hG : gG[b]? = some (1, n, z)) (h1 : b ≠ 309) (h2 : b ≠ 554) : jI (ccp s a b p q m) :=
  jI_row h rfl (fun _ _ _ _ hc => ccp_ne (cU_ne hG (by decide) hc)) (ccp_ne (Ne.symm h1)) (ccp_ne (Ne.symm h2))
section PQ
variable {L : Nat} {ys : Nat → Int32} {d N : Nat} {M : rm_M} {pc pc' : Nat} {lv lv' : List (Nat × im_V)} {st : List im_V} {s : im_S} {Q : im_Re → Prop}
def p0 (L : Nat) (ys : Nat → Int32) (d N : Nat) (M : rm_M) (q : im_N) (Q : im_Re → Prop) : Prop := ∀ f, f ≤ N → ∀ res, im_loop gG (im_call gG rm_P L ys d) rm_P M L ys f q res → Q res
def pq (L : Nat) (ys : Nat → Int32) (d N : Nat) (M : rm_M) (q : im_N) (Q : im_Re → Prop) : Prop := ∀ lv2, im_sub q.2.1 lv2 → p0 L ys d N M (q.1, lv2, q.2.2) Q
def pcV (L : Nat) (ys : Nat → Int32) (d mi : Nat) (av : List im_V) (s : im_S) (R : im_S → Prop) : Prop := ∀ res, im_call gG rm_P L ys d mi av s res → res.1 = none ∧ R res.2
def pcI (L : Nat) (ys : Nat → Int32) (t d mi : Nat) (av : List im_V) (s : im_S) (R : Int → im_S → Prop) : Prop := ∀ res, im_call gG rm_P L ys d mi av s res → ∃ z, res.1 = some (t, z) ∧ R z res.2
def pcR (L : Nat) (ys : Nat → Int32) (d mi : Nat) (av : List im_V) (s : im_S) (R : Nat → im_S → Prop) : Prop := ∀ res, im_call gG rm_P L ys d mi av s res → ∃ b : Nat, res.1 = some (2, (b : Int)) ∧ R b res.2
theorem p0_op {i : Instr} {n : Nat} {q : im_N} {g : im_N → Option im_N} (hf : rm_find M.1 q.1 = some (i, n)) (hc : rm_ck i = none) (ho : im_op gG M.2.2.1 M.2.1 L ys i n = some g) (h : ∀ r, g q = some r → p0 L ys d N M r Q) : p0 L ys d N M q Q := by
  intro f hN res hl
  cases f with
  | zero => cases hl
  | succ f =>
    obtain ⟨i', n', h1, h2⟩ : ∃ i n, rm_find M.1 q.1 = some (i, n) ∧ (im_ret M.2.2.2.1 i n q = some res ∨ ∃ r, im_one gG (im_call gG rm_P L ys d) rm_P M L ys i n q r ∧ im_loop gG (im_call gG rm_P L ys d) rm_P M L ys f r res) := hl
    rw [hf] at h1
    cases h1
    rcases h2 with h2 | ⟨r, r1, r2⟩
    · unfold im_ret at h2
      split at h2
      · cases ho
      · cases ho
      · cases ho
      · cases ho
      · cases h2
    · unfold im_one at r1
      rw [hc] at r1
      obtain ⟨g', a, b⟩ := r1
      rw [ho] at a
      cases a
      exact h r b f (by omega) res r2
theorem p0_ck {i : Instr} {n : Nat} {q : im_N} {kk : Nat × Nat} (hf : rm_find M.1 q.1 = some (i, n)) (hc : rm_ck i = some kk) (h : ∀ r, im_inv gG (im_call gG rm_P L ys d) rm_P kk.1 (rm_lk M.2.1 kk.2) q r → p0 L ys d N M r Q) : p0 L ys d N M q Q := by
  intro f hN res hl
  cases f with
  | zero => cases hl
  | succ f =>
    obtain ⟨i', n', h1, h2⟩ : ∃ i n, rm_find M.1 q.1 = some (i, n) ∧ (im_ret M.2.2.2.1 i n q = some res ∨ ∃ r, im_one gG (im_call gG rm_P L ys d) rm_P M L ys i n q r ∧ im_loop gG (im_call gG rm_P L ys d) rm_P M L ys f r res) := hl
    rw [hf] at h1
    cases h1
    rcases h2 with h2 | ⟨r, r1, r2⟩
    · unfold im_ret at h2
      split at h2
      · cases hc
      · cases hc
      · cases hc
      · cases hc
      · cases h2
    · unfold im_one at r1
      rw [hc] at r1
      exact h r r1.2 f (by omega) res r2
theorem p0_ret {i : Instr} {n : Nat} {q : im_N} (hf : rm_find M.1 q.1 = some (i, n)) (hc : rm_ck i = none) (ho : im_op gG M.2.2.1 M.2.1 L ys i n = none) (h : ∀ res, im_ret M.2.2.2.1 i n q = some res → Q res) : p0 L ys d N M q Q := by
  intro f hN res hl
  cases f with
  | zero => cases hl
  | succ f =>
    obtain ⟨i', n', h1, h2⟩ : ∃ i n, rm_find M.1 q.1 = some (i, n) ∧ (im_ret M.2.2.2.1 i n q = some res ∨ ∃ r, im_one gG (im_call gG rm_P L ys d) rm_P M L ys i n q r ∧ im_loop gG (im_call gG rm_P L ys d) rm_P M L ys f r res) := hl
    rw [hf] at h1
    cases h1
    rcases h2 with h2 | ⟨r, r1, r2⟩
    · exact h res h2
    · unfold im_one at r1
      rw [hc] at r1
      obtain ⟨g', a, b⟩ := r1
      rw [ho] at a
      cases a
theorem pq_i {i : Instr} {n : Nat} {g : im_N → Option im_N} {st' : List im_V} {s' : im_S} {C : Prop} (hf : rm_find M.1 pc = some (i, n)) (hc : rm_ck i = none) (ho : im_op gG M.2.2.1 M.2.1 L ys i n = some g) (hg : ∀ lv r, g (pc, lv, st, s) = some r → r = (pc', lv, st', s') ∧ C) (h : C → pq L ys d N M (pc', lv, st', s') Q) : pq L ys d N M (pc, lv, st, s) Q := fun lv2 hs => p0_op hf hc ho (fun r hr => by
  obtain ⟨rfl, c⟩ := hg lv2 r hr
  exact h c lv2 hs)
/-- any instruction that leaves the locals alone and cannot fail -/
theorem pq_x {i : Instr} {n : Nat} {g : im_N → Option im_N} {st' : List im_V} {s' : im_S} (hf : rm_find M.1 pc = some (i, n)) (hc : rm_ck i = none) (ho : im_op gG M.2.2.1 M.2.1 L ys i n = some g) (hg : ∀ lv, g (pc, lv, st, s) = some (pc', lv, st', s')) (h : pq L ys d N M (pc', lv, st', s') Q) : pq L ys d N M (pc, lv, st, s) Q :=
  pq_i (C := True) hf hc ho (fun lv r hr => by rw [hg lv] at hr; cases hr; exact ⟨rfl, trivial⟩) (fun _ => h)
theorem pq_k {i : Instr} {n : Nat} {g : im_N → Option im_N} {v : im_V} (hf : rm_find M.1 pc = some (i, n)) (hc : rm_ck i = none) (ho : im_op gG M.2.2.1 M.2.1 L ys i n = some g) (hg : ∀ lv, g (pc, lv, st, s) = some (pc', lv, v :: st, s)) (h : pq L ys d N M (pc', lv, v :: st, s) Q) : pq L ys d N M (pc, lv, st, s) Q := pq_x hf hc ho hg h
theorem pq_w {st : List im_V} (lv' : List (Nat × im_V)) (hs : im_sl lv' lv) (h : pq L ys d N M (pc, lv', st, s) Q) : pq L ys d N M (pc, lv, st, s) Q := fun lv2 h2 => h lv2 (im_sub_trans (im_sl_ok hs) h2)
theorem pq_l {i : Instr} {n j : Nat} {f : im_V → Bool} {v : im_V} (hf : rm_find M.1 pc = some (i, n)) (hc : rm_ck i = none) (ho : im_op gG M.2.2.1 M.2.1 L ys i n = some (im_loadT f n j)) (hp : pc + n = pc') (hv : im_get lv j = some v) (h : pq L ys d N M (pc', lv, v :: st, s) Q) : pq L ys d N M (pc, lv, st, s) Q := fun lv2 hs => by
  subst hp
  refine p0_op hf hc ho (fun r hr => ?_)
  have e : im_get lv2 j = some v := hs j v hv
  replace hr : (match im_get lv2 j with
    | some v => if f v then some (pc + n, lv2, v :: st, s) else none
    | none => none) = some r := hr
  rw [e] at hr
  dsimp only at hr
  split at hr
  · cases hr; exact h lv2 hs
  · cases hr
theorem pq_s {i : Instr} {n j nL : Nat} {f : im_V → Bool} {v : im_V} (hf : rm_find M.1 pc = some (i, n)) (hc : rm_ck i = none) (ho : im_op gG M.2.2.1 M.2.1 L ys i n = some (im_store1 f nL n j)) (hp : pc + n = pc') (hn : im_nd lv = true) (h : pq L ys d N M (pc', im_put1 lv j v, st, s) Q) : pq L ys d N M (pc, lv, v :: st, s) Q := fun lv2 hs => by
  subst hp
  refine p0_op hf hc ho (fun r hr => ?_)
  have hr : (if (f v && decide (j < nL)) = true then some (pc + n, im_put1 lv2 j v, st, s) else none) = some r := hr
  split at hr
  · cases hr; exact h (im_put1 lv2 j v) (im_sub_put1 hn hs)
  · cases hr
theorem pq_s2 {i : Instr} {n j nL : Nat} {x : Int} (hf : rm_find M.1 pc = some (i, n)) (hc : rm_ck i = none) (ho : im_op gG M.2.2.1 M.2.1 L ys i n = some (im_store2 nL n j)) (hp : pc + n = pc') (hn : im_nd lv = true) (h : pq L ys d N M (pc', im_put2 lv j (1, x), st, s) Q) : pq L ys d N M (pc, lv, (1, x) :: st, s) Q := fun lv2 hs => by
  subst hp
  refine p0_op hf hc ho (fun r hr => ?_)
  have hr : (if j + 1 < nL then some (pc + n, im_put2 lv2 j (1, x), st, s) else none) = some r := hr
  split at hr
  · cases hr; exact h (im_put2 lv2 j (1, x)) (im_sub_put2 hn hs)
  · cases hr
theorem pq_inc {j : Nat} {k x : Int} (hf : rm_find M.1 pc = some (.iinc j k, 3)) (hp : pc + 3 = pc') (hg : im_get lv j = some (0, x)) (hd : im_nd lv = true) (h : pq L ys d N M (pc', im_put1 lv j (0, w32 (x + k)), st, s) Q) : pq L ys d N M (pc, lv, st, s) Q := fun lv2 hs => by
  subst hp
  refine p0_op hf rfl rfl (fun r hr => ?_)
  have hr : im_iinc M.2.2.1 j k (pc, lv2, st, s) = some r := hr
  unfold im_iinc at hr
  rw [show im_get (pc, lv2, st, s).2.1 j = some (0, x) from hs j _ hg] at hr
  have hr : (if j < M.2.2.1 then some (pc + 3, im_put1 lv2 j (0, (Int32.ofInt x + Int32.ofInt k).toInt), st, s) else none) = some r := hr
  split at hr
  · cases hr
    have e : (Int32.ofInt x + Int32.ofInt k).toInt = w32 (x + k) := by rw [← Int32.ofInt_add]; rfl
    rw [e]
    exact h _ (im_sub_put1 hd hs)
  · cases hr
theorem pq_ii {i : Instr} {f : Int32 → Int32 → Int32} {x y : Int} (hf : rm_find M.1 pc = some (i, 1)) (hc : rm_ck i = none) (ho : im_op gG M.2.2.1 M.2.1 L ys i 1 = some (im_ii f)) (hp : pc + 1 = pc') (h : pq L ys d N M (pc', lv, (0, i2 f x y) :: st, s) Q) : pq L ys d N M (pc, lv, (0, y) :: (0, x) :: st, s) Q := by
  subst hp
  exact pq_x hf hc ho (fun _ => rfl) h
theorem pq_add {x y : Int} (hf : rm_find M.1 pc = some (.iadd, 1)) (hp : pc + 1 = pc') (h : pq L ys d N M (pc', lv, (0, w32 (x + y)) :: st, s) Q) : pq L ys d N M (pc, lv, (0, y) :: (0, x) :: st, s) Q :=
  pq_ii hf rfl rfl hp (by have e : i2 (fun x y => x + y) x y = w32 (x + y) := (by unfold i2 w32; rw [Int32.ofInt_add]); rw [e]; exact h)
theorem pq_sub {x y : Int} (hf : rm_find M.1 pc = some (.isub, 1)) (hp : pc + 1 = pc') (h : pq L ys d N M (pc', lv, (0, w32 (x - y)) :: st, s) Q) : pq L ys d N M (pc, lv, (0, y) :: (0, x) :: st, s) Q :=
  pq_ii hf rfl rfl hp (by have e : i2 (fun x y => x - y) x y = w32 (x - y) := (by unfold i2 w32; rw [Int32.ofInt_sub]); rw [e]; exact h)
theorem pq_mul {x y : Int} (hf : rm_find M.1 pc = some (.imul, 1)) (hp : pc + 1 = pc') (h : pq L ys d N M (pc', lv, (0, w32 (x * y)) :: st, s) Q) : pq L ys d N M (pc, lv, (0, y) :: (0, x) :: st, s) Q :=
  pq_ii hf rfl rfl hp (by have e : i2 (fun x y => x * y) x y = w32 (x * y) := (by unfold i2 w32; rw [Int32.ofInt_mul]); rw [e]; exact h)
theorem pq_jj {i : Instr} {f : Int64 → Int64 → Int64} {x y : Int} (hf : rm_find M.1 pc = some (i, 1)) (hc : rm_ck i = none) (ho : im_op gG M.2.2.1 M.2.1 L ys i 1 = some (im_jj f)) (hp : pc + 1 = pc') (h : pq L ys d N M (pc', lv, (1, j2 f x y) :: st, s) Q) : pq L ys d N M (pc, lv, (1, y) :: (1, x) :: st, s) Q := by
  subst hp
  exact pq_x hf hc ho (fun _ => rfl) h
theorem pq_ladd {x y : Int} (hf : rm_find M.1 pc = some (.ladd, 1)) (hp : pc + 1 = pc') (h : pq L ys d N M (pc', lv, (1, w64 (x + y)) :: st, s) Q) : pq L ys d N M (pc, lv, (1, y) :: (1, x) :: st, s) Q :=
  pq_jj hf rfl rfl hp (by have e : j2 (fun x y => x + y) x y = w64 (x + y) := (by unfold j2 w64; rw [Int64.ofInt_add]); rw [e]; exact h)
theorem pq_lsub {x y : Int} (hf : rm_find M.1 pc = some (.lsub, 1)) (hp : pc + 1 = pc') (h : pq L ys d N M (pc', lv, (1, w64 (x - y)) :: st, s) Q) : pq L ys d N M (pc, lv, (1, y) :: (1, x) :: st, s) Q :=
  pq_jj hf rfl rfl hp (by have e : j2 (fun x y => x - y) x y = w64 (x - y) := (by unfold j2 w64; rw [Int64.ofInt_sub]); rw [e]; exact h)
theorem pq_lmul {x y : Int} (hf : rm_find M.1 pc = some (.lmul, 1)) (hp : pc + 1 = pc') (h : pq L ys d N M (pc', lv, (1, w64 (x * y)) :: st, s) Q) : pq L ys d N M (pc, lv, (1, y) :: (1, x) :: st, s) Q :=
  pq_jj hf rfl rfl hp (by have e : j2 (fun x y => x * y) x y = w64 (x * y) := (by unfold j2 w64; rw [Int64.ofInt_mul]); rw [e]; exact h)
theorem pq_jij {i : Instr} {f : Int64 → Int32 → Int64} {x y : Int} (hf : rm_find M.1 pc = some (i, 1)) (hc : rm_ck i = none) (ho : im_op gG M.2.2.1 M.2.1 L ys i 1 = some (im_jij f)) (hp : pc + 1 = pc') (h : pq L ys d N M (pc', lv, (1, ji2 f x y) :: st, s) Q) : pq L ys d N M (pc, lv, (0, y) :: (1, x) :: st, s) Q := by
  subst hp
  exact pq_x hf hc ho (fun _ => rfl) h
theorem pq_iz {i : Instr} {f : Int32 → Int32 → Int32} {x y : Int} (hf : rm_find M.1 pc = some (i, 1)) (hc : rm_ck i = none) (ho : im_op gG M.2.2.1 M.2.1 L ys i 1 = some (im_iiz f)) (hp : pc + 1 = pc') (h : pq L ys d N M (pc', lv, (0, i2 f x y) :: st, s) Q) : pq L ys d N M (pc, lv, (0, y) :: (0, x) :: st, s) Q := by
  subst hp
  refine pq_i (C := True) hf hc ho (fun lv r hr => ?_) (fun _ => h)
  have hr : (if y = 0 then none else some (pc + 1, lv, (0, (f (Int32.ofInt x) (Int32.ofInt y)).toInt) :: st, s)) = some r := hr
  split at hr
  · cases hr
  · cases hr; exact ⟨rfl, trivial⟩
theorem pq_jz {i : Instr} {f : Int64 → Int64 → Int64} {x y : Int} (hf : rm_find M.1 pc = some (i, 1)) (hc : rm_ck i = none) (ho : im_op gG M.2.2.1 M.2.1 L ys i 1 = some (im_jjz f)) (hp : pc + 1 = pc') (h : y ≠ 0 → pq L ys d N M (pc', lv, (1, j2 f x y) :: st, s) Q) : pq L ys d N M (pc, lv, (1, y) :: (1, x) :: st, s) Q := by
  subst hp
  refine pq_i (C := y ≠ 0) hf hc ho (fun lv r hr => ?_) h
  have hr : (if y = 0 then none else some (pc + 1, lv, (1, (f (Int64.ofInt x) (Int64.ofInt y)).toInt) :: st, s)) = some r := hr
  split at hr
  · cases hr
  · rename_i hy
    cases hr
    exact ⟨rfl, hy⟩
theorem pq_i2l {x : Int} (hf : rm_find M.1 pc = some (.i2l, 1)) (hp : pc + 1 = pc') (hx : iR x) (h : pq L ys d N M (pc', lv, (1, x) :: st, s) Q) : pq L ys d N M (pc, lv, (0, x) :: st, s) Q := by
  subst hp
  refine pq_x hf rfl rfl (fun lv => ?_) h
  show some (pc + 1, lv, (1, (Int32.ofInt x).toInt64.toInt) :: st, s) = _
  rw [Int32.toInt_toInt64, im_bm hx.1 hx.2]
theorem pq_l2i {x : Int} (hf : rm_find M.1 pc = some (.l2i, 1)) (hp : pc + 1 = pc') (h : pq L ys d N M (pc', lv, (0, w32 x) :: st, s) Q) : pq L ys d N M (pc, lv, (1, x) :: st, s) Q := by
  subst hp
  refine pq_x hf rfl rfl (fun lv => ?_) h
  show some (pc + 1, lv, (0, (Int64.ofInt x).toInt32.toInt) :: st, s) = _
  have e : (Int64.ofInt x).toInt32 = Int32.ofInt x := by rw [Int64.toInt32_ofInt]
  rw [e]
  rfl
theorem pq_ineg {x : Int} (hf : rm_find M.1 pc = some (.ineg, 1)) (hp : pc + 1 = pc') (h : pq L ys d N M (pc', lv, (0, w32 (-x)) :: st, s) Q) : pq L ys d N M (pc, lv, (0, x) :: st, s) Q := by
  subst hp
  refine pq_x hf rfl rfl (fun lv => ?_) h
  show some (pc + 1, lv, (0, (-(Int32.ofInt x)).toInt) :: st, s) = _
  rw [← Int32.ofInt_neg]
  rfl
theorem pq_lneg {x : Int} (hf : rm_find M.1 pc = some (.lneg, 1)) (hp : pc + 1 = pc') (h : pq L ys d N M (pc', lv, (1, w64 (-x)) :: st, s) Q) : pq L ys d N M (pc, lv, (1, x) :: st, s) Q := by
  subst hp
  refine pq_x hf rfl rfl (fun lv => ?_) h
  show some (pc + 1, lv, (1, (-(Int64.ofInt x)).toInt) :: st, s) = _
  rw [← Int64.ofInt_neg]
  rfl
theorem pq_lcmp {x y : Int} (hf : rm_find M.1 pc = some (.lcmp, 1)) (hp : pc + 1 = pc') (hx : lR x) (hy : lR y) (h : ∀ z : Int, ((x < y ∧ z = -1) ∨ (x = y ∧ z = 0) ∨ (y < x ∧ z = 1)) → pq L ys d N M (pc', lv, (0, z) :: st, s) Q) : pq L ys d N M (pc, lv, (1, y) :: (1, x) :: st, s) Q := by
  subst hp
  refine pq_x hf rfl rfl (fun _ => rfl) (h _ ?_)
  have e1 := im_bmJ hx.1 hx.2
  have e2 := im_bmJ hy.1 hy.2
  have c1 : (Int64.ofInt x > Int64.ofInt y) ↔ y < x := by
    show Int64.ofInt y < Int64.ofInt x ↔ _
    rw [Int64.lt_iff_toInt_lt, e1, e2]
  have c2 : (Int64.ofInt x = Int64.ofInt y) ↔ x = y := by
    rw [← Int64.toInt_inj, e1, e2]
  unfold lg_cmp
  by_cases h1 : y < x
  · rw [if_pos (c1.mpr h1)]
    exact Or.inr (Or.inr ⟨h1, rfl⟩)
  · rw [if_neg (fun z => h1 (c1.mp z))]
    by_cases h2 : x = y
    · rw [if_pos (c2.mpr h2)]
      exact Or.inr (Or.inl ⟨h2, rfl⟩)
    · rw [if_neg (fun z => h2 (c2.mp z))]
      exact Or.inl ⟨by omega, rfl⟩
theorem pq_goto {off : Int} (hf : rm_find M.1 pc = some (.goto off, 3)) (ht : rm_tgt pc off = some pc') (h : pq L ys d N M (pc', lv, st, s) Q) : pq L ys d N M (pc, lv, st, s) Q := by
  refine pq_x hf rfl rfl (fun lv => ?_) h
  show (match rm_tgt pc off with
    | some g => some (g, lv, st, s)
    | none => none) = _
  rw [ht]
/-- back to a loop's head -/
theorem pq_gotoT {off : Int} (hf : rm_find M.1 pc = some (.goto off, 3)) (ht : rm_tgt pc off = some pc') (h : ∀ m, m < N → pq L ys d m M (pc', lv, st, s) Q) : pq L ys d N M (pc, lv, st, s) Q := by
  intro lv2 hs f hN res hl
  cases f with
  | zero => cases hl
  | succ f =>
    have h0 : pq L ys d f M (pc', lv, st, s) Q := h f (by omega)
    obtain ⟨i', n', h1, h2⟩ : ∃ i n, rm_find M.1 pc = some (i, n) ∧ (im_ret M.2.2.2.1 i n (pc, lv2, st, s) = some res ∨ ∃ r, im_one gG (im_call gG rm_P L ys d) rm_P M L ys i n (pc, lv2, st, s) r ∧ im_loop gG (im_call gG rm_P L ys d) rm_P M L ys f r res) := hl
    rw [hf] at h1
    cases h1
    rcases h2 with h2 | ⟨r, r1, r2⟩
    · cases h2
    · obtain ⟨g', a, b⟩ : ∃ g, im_op gG M.2.2.1 M.2.1 L ys (.goto off) 3 = some g ∧ g (pc, lv2, st, s) = some r := r1
      cases a
      have b : (match rm_tgt pc off with
        | some g => some (g, lv2, st, s)
        | none => none) = some r := b
      rw [ht] at b
      cases b
      exact h0 lv2 hs f (Nat.le_refl _) res r2
theorem pq_if1 {cd : ClassFile.Cond} {off x : Int} {pt : Nat} (hf : rm_find M.1 pc = some (.ifCond cd off, 3)) (ht : rm_tgt pc off = some pt) (hp : pc + 3 = pc') (h1 : im_cnd cd x 0 = true → pq L ys d N M (pt, lv, st, s) Q) (h2 : im_cnd cd x 0 = false → pq L ys d N M (pc', lv, st, s) Q) : pq L ys d N M (pc, lv, (0, x) :: st, s) Q := by
  subst hp
  cases hc : im_cnd cd x 0 with
  | true =>
    refine pq_x hf rfl rfl (fun lv => ?_) (h1 hc)
    show im_if1 cd off (pc, lv, (0, x) :: st, s) = _
    unfold im_if1
    rw [show rm_tgt (pc, lv, (0, x) :: st, s).1 off = some pt from ht]
    show some (if im_cnd cd x 0 = true then pt else pc + 3, lv, st, s) = _
    rw [hc]
    rfl
  | false =>
    refine pq_x hf rfl rfl (fun lv => ?_) (h2 hc)
    show im_if1 cd off (pc, lv, (0, x) :: st, s) = _
    unfold im_if1
    rw [show rm_tgt (pc, lv, (0, x) :: st, s).1 off = some pt from ht]
    show some (if im_cnd cd x 0 = true then pt else pc + 3, lv, st, s) = _
    rw [hc]
    rfl
theorem pq_if2 {cd : ClassFile.Cond} {off x y : Int} {pt : Nat} (hf : rm_find M.1 pc = some (.if_icmp cd off, 3)) (ht : rm_tgt pc off = some pt) (hp : pc + 3 = pc') (h1 : im_cnd cd x y = true → pq L ys d N M (pt, lv, st, s) Q) (h2 : im_cnd cd x y = false → pq L ys d N M (pc', lv, st, s) Q) : pq L ys d N M (pc, lv, (0, y) :: (0, x) :: st, s) Q := by
  subst hp
  cases hc : im_cnd cd x y with
  | true =>
    refine pq_x hf rfl rfl (fun lv => ?_) (h1 hc)
    show im_if2 cd off (pc, lv, (0, y) :: (0, x) :: st, s) = _
    unfold im_if2
    rw [show rm_tgt (pc, lv, (0, y) :: (0, x) :: st, s).1 off = some pt from ht]
    show some (if im_cnd cd x y = true then pt else pc + 3, lv, st, s) = _
    rw [hc]
    rfl
  | false =>
    refine pq_x hf rfl rfl (fun lv => ?_) (h2 hc)
    show im_if2 cd off (pc, lv, (0, y) :: (0, x) :: st, s) = _
    unfold im_if2
    rw [show rm_tgt (pc, lv, (0, y) :: (0, x) :: st, s).1 off = some pt from ht]
    show some (if im_cnd cd x y = true then pt else pc + 3, lv, st, s) = _
    rw [hc]
    rfl
theorem pq_z_eq {off x : Int} {pt : Nat} (hf : rm_find M.1 pc = some (.ifCond .eq off, 3)) (ht : rm_tgt pc off = some pt) (hp : pc + 3 = pc') (h1 : x = 0 → pq L ys d N M (pt, lv, st, s) Q) (h2 : ¬ (x = 0) → pq L ys d N M (pc', lv, st, s) Q) : pq L ys d N M (pc, lv, (0, x) :: st, s) Q :=
  pq_if1 hf ht hp (fun z => h1 (of_decide_eq_true z)) (fun z => h2 (of_decide_eq_false z))
theorem pq_c_eq {off x y : Int} {pt : Nat} (hf : rm_find M.1 pc = some (.if_icmp .eq off, 3)) (ht : rm_tgt pc off = some pt) (hp : pc + 3 = pc') (h1 : x = y → pq L ys d N M (pt, lv, st, s) Q) (h2 : ¬ (x = y) → pq L ys d N M (pc', lv, st, s) Q) : pq L ys d N M (pc, lv, (0, y) :: (0, x) :: st, s) Q :=
  pq_if2 hf ht hp (fun z => h1 (of_decide_eq_true z)) (fun z => h2 (of_decide_eq_false z))
theorem pq_z_ne {off x : Int} {pt : Nat} (hf : rm_find M.1 pc = some (.ifCond .ne off, 3)) (ht : rm_tgt pc off = some pt) (hp : pc + 3 = pc') (h1 : ¬ x = 0 → pq L ys d N M (pt, lv, st, s) Q) (h2 : x = 0 → pq L ys d N M (pc', lv, st, s) Q) : pq L ys d N M (pc, lv, (0, x) :: st, s) Q :=
  pq_if1 hf ht hp (fun z => h1 (of_decide_eq_true z)) (fun z => h2 (Decidable.not_not.mp (of_decide_eq_false z)))
theorem pq_c_ne {off x y : Int} {pt : Nat} (hf : rm_find M.1 pc = some (.if_icmp .ne off, 3)) (ht : rm_tgt pc off = some pt) (hp : pc + 3 = pc') (h1 : ¬ x = y → pq L ys d N M (pt, lv, st, s) Q) (h2 : x = y → pq L ys d N M (pc', lv, st, s) Q) : pq L ys d N M (pc, lv, (0, y) :: (0, x) :: st, s) Q :=
  pq_if2 hf ht hp (fun z => h1 (of_decide_eq_true z)) (fun z => h2 (Decidable.not_not.mp (of_decide_eq_false z)))
theorem pq_z_lt {off x : Int} {pt : Nat} (hf : rm_find M.1 pc = some (.ifCond .lt off, 3)) (ht : rm_tgt pc off = some pt) (hp : pc + 3 = pc') (h1 : x < 0 → pq L ys d N M (pt, lv, st, s) Q) (h2 : ¬ (x < 0) → pq L ys d N M (pc', lv, st, s) Q) : pq L ys d N M (pc, lv, (0, x) :: st, s) Q :=
  pq_if1 hf ht hp (fun z => h1 (of_decide_eq_true z)) (fun z => h2 (of_decide_eq_false z))
theorem pq_c_lt {off x y : Int} {pt : Nat} (hf : rm_find M.1 pc = some (.if_icmp .lt off, 3)) (ht : rm_tgt pc off = some pt) (hp : pc + 3 = pc') (h1 : x < y → pq L ys d N M (pt, lv, st, s) Q) (h2 : ¬ (x < y) → pq L ys d N M (pc', lv, st, s) Q) : pq L ys d N M (pc, lv, (0, y) :: (0, x) :: st, s) Q :=
  pq_if2 hf ht hp (fun z => h1 (of_decide_eq_true z)) (fun z => h2 (of_decide_eq_false z))
theorem pq_z_ge {off x : Int} {pt : Nat} (hf : rm_find M.1 pc = some (.ifCond .ge off, 3)) (ht : rm_tgt pc off = some pt) (hp : pc + 3 = pc') (h1 : 0 ≤ x → pq L ys d N M (pt, lv, st, s) Q) (h2 : ¬ (0 ≤ x) → pq L ys d N M (pc', lv, st, s) Q) : pq L ys d N M (pc, lv, (0, x) :: st, s) Q :=
  pq_if1 hf ht hp (fun z => h1 (of_decide_eq_true z)) (fun z => h2 (of_decide_eq_false z))
theorem pq_c_ge {off x y : Int} {pt : Nat} (hf : rm_find M.1 pc = some (.if_icmp .ge off, 3)) (ht : rm_tgt pc off = some pt) (hp : pc + 3 = pc') (h1 : y ≤ x → pq L ys d N M (pt, lv, st, s) Q) (h2 : ¬ (y ≤ x) → pq L ys d N M (pc', lv, st, s) Q) : pq L ys d N M (pc, lv, (0, y) :: (0, x) :: st, s) Q :=
  pq_if2 hf ht hp (fun z => h1 (of_decide_eq_true z)) (fun z => h2 (of_decide_eq_false z))
theorem pq_z_gt {off x : Int} {pt : Nat} (hf : rm_find M.1 pc = some (.ifCond .gt off, 3)) (ht : rm_tgt pc off = some pt) (hp : pc + 3 = pc') (h1 : 0 < x → pq L ys d N M (pt, lv, st, s) Q) (h2 : ¬ (0 < x) → pq L ys d N M (pc', lv, st, s) Q) : pq L ys d N M (pc, lv, (0, x) :: st, s) Q :=
  pq_if1 hf ht hp (fun z => h1 (of_decide_eq_true z)) (fun z => h2 (of_decide_eq_false z))
theorem pq_c_gt {off x y : Int} {pt : Nat} (hf : rm_find M.1 pc = some (.if_icmp .gt off, 3)) (ht : rm_tgt pc off = some pt) (hp : pc + 3 = pc') (h1 : y < x → pq L ys d N M (pt, lv, st, s) Q) (h2 : ¬ (y < x) → pq L ys d N M (pc', lv, st, s) Q) : pq L ys d N M (pc, lv, (0, y) :: (0, x) :: st, s) Q :=
  pq_if2 hf ht hp (fun z => h1 (of_decide_eq_true z)) (fun z => h2 (of_decide_eq_false z))
theorem pq_z_le {off x : Int} {pt : Nat} (hf : rm_find M.1 pc = some (.ifCond .le off, 3)) (ht : rm_tgt pc off = some pt) (hp : pc + 3 = pc') (h1 : x ≤ 0 → pq L ys d N M (pt, lv, st, s) Q) (h2 : ¬ (x ≤ 0) → pq L ys d N M (pc', lv, st, s) Q) : pq L ys d N M (pc, lv, (0, x) :: st, s) Q :=
  pq_if1 hf ht hp (fun z => h1 (of_decide_eq_true z)) (fun z => h2 (of_decide_eq_false z))
theorem pq_c_le {off x y : Int} {pt : Nat} (hf : rm_find M.1 pc = some (.if_icmp .le off, 3)) (ht : rm_tgt pc off = some pt) (hp : pc + 3 = pc') (h1 : x ≤ y → pq L ys d N M (pt, lv, st, s) Q) (h2 : ¬ (x ≤ y) → pq L ys d N M (pc', lv, st, s) Q) : pq L ys d N M (pc, lv, (0, y) :: (0, x) :: st, s) Q :=
  pq_if2 hf ht hp (fun z => h1 (of_decide_eq_true z)) (fun z => h2 (of_decide_eq_false z))
theorem im_getf_inv {ci f w a : Nat} {lv : List (Nat × im_V)} {r : im_N} (h : im_getf gG (some (0, ci, f, w)) (pc, lv, (2, (a : Int)) :: st, s) = some r) : ∃ tys t v, gG[a]? = some (0, ci, tys) ∧ tys[f]? = some t ∧ im_fo t (s.1 a f) = some v ∧ r = (pc + 3, lv, v :: st, s) := by
  replace h : (match gG[a]? with
    | some (0, ci', tys) => if ci' = ci then (match tys[f]? with
      | some t => (match im_fo t (s.1 a f) with
        | some v => some (pc + 3, lv, v :: st, s)
        | none => none)
      | none => none) else none
    | _ => none) = some r := h
  split at h
  · rename_i ci' tys hG
    split at h
    · rename_i e
      subst e
      split at h
      · rename_i t ht
        split at h
        · rename_i v hv
          cases h
          exact ⟨tys, t, v, hG, ht, hv, rfl⟩
        · cases h
      · cases h
    · cases h
  · cases h
theorem im_fo_i {t : Nat} {x : Int} {v : im_V} (h : im_fo t x = some v) (h1 : t ≠ 1) (h3 : t ≠ 3) : v = (0, x) ∧ iR x := by
  unfold im_fo at h
  rw [if_neg h1, if_neg h3] at h
  split at h
  · rename_i e
    unfold im_iI at e
    simp only [Bool.and_eq_true, decide_eq_true_eq] at e
    cases h
    exact ⟨rfl, e⟩
  · cases h
theorem im_fo_j {x : Int} {v : im_V} (h : im_fo 1 x = some v) : v = (1, x) ∧ lR x := by
  unfold im_fo at h
  rw [if_pos rfl] at h
  split at h
  · rename_i e
    unfold im_iJ at e
    simp only [Bool.and_eq_true, decide_eq_true_eq] at e
    cases h
    exact ⟨rfl, e⟩
  · cases h
/-- an int field -/
theorem pq_gi {idx ci f w a t : Nat} (hf : rm_find M.1 pc = some (.getfield idx, 3)) (hl : rm_lk M.2.1 idx = some (0, ci, f, w)) (hp : pc + 3 = pc') (ht : (cty.getD ci [])[f]? = some t) (h1 : decide (t ≠ 1 ∧ t ≠ 3) = true) (h : iR (cgf s a f) → pq L ys d N M (pc', lv, (0, cgf s a f) :: st, s) Q) : pq L ys d N M (pc, lv, (2, (a : Int)) :: st, s) Q := by
  subst hp
  have h1 := of_decide_eq_true h1
  refine pq_i (C := iR (cgf s a f)) hf rfl rfl (fun lv r hr => ?_) h
  rw [hl] at hr
  obtain ⟨tys, t', v, e1, e2, e3, e4⟩ := im_getf_inv hr
  rw [cty_ok e1, ht] at e2
  cases e2
  obtain ⟨rfl, e5⟩ := im_fo_i e3 h1.1 h1.2
  exact ⟨e4, e5⟩
/-- a long field -/
theorem pq_gj {idx ci f w a : Nat} (hf : rm_find M.1 pc = some (.getfield idx, 3)) (hl : rm_lk M.2.1 idx = some (0, ci, f, w)) (hp : pc + 3 = pc') (ht : (cty.getD ci [])[f]? = some 1) (h : lR (cgf s a f) → pq L ys d N M (pc', lv, (1, cgf s a f) :: st, s) Q) : pq L ys d N M (pc, lv, (2, (a : Int)) :: st, s) Q := by
  subst hp
  refine pq_i (C := lR (cgf s a f)) hf rfl rfl (fun lv r hr => ?_) h
  rw [hl] at hr
  obtain ⟨tys, t', v, e1, e2, e3, e4⟩ := im_getf_inv hr
  rw [cty_ok e1, ht] at e2
  cases e2
  obtain ⟨rfl, e5⟩ := im_fo_j e3
  exact ⟨e4, e5⟩
/-- a reference that may change -/
theorem pq_gm {idx ci f w a : Nat} (hf : rm_find M.1 pc = some (.getfield idx, 3)) (hl : rm_lk M.2.1 idx = some (0, ci, f, w)) (hp : pc + 3 = pc') (ht : (cty.getD ci [])[f]? = some 3) (h0 : 0 ≤ s.1 a f) (h : pq L ys d N M (pc', lv, (2, ((crf s a f : Nat) : Int)) :: st, s) Q) : pq L ys d N M (pc, lv, (2, (a : Int)) :: st, s) Q := by
  subst hp
  refine pq_i (C := True) hf rfl rfl (fun lv r hr => ?_) (fun _ => h)
  rw [hl] at hr
  obtain ⟨tys, t', v, e1, e2, e3, e4⟩ := im_getf_inv hr
  rw [cty_ok e1, ht] at e2
  cases e2
  unfold im_fo at e3
  rw [if_neg (by decide), if_pos rfl, if_neg (by omega)] at e3
  cases e3
  refine ⟨?_, trivial⟩
  rw [e4]
  unfold crf
  rw [Int.toNat_of_nonneg h0]
theorem pq_gr {idx ci f w a c v : Nat} (hf : rm_find M.1 pc = some (.getfield idx, 3)) (hl : rm_lk M.2.1 idx = some (0, ci, f, w)) (hp : pc + 3 = pc') (ht : (cty.getD ci [])[f]? = some 3) (hv : cT.contains (ci, f, v) = true) (hc : (if v = 0 then a + 1 else v) = c) (hj : jI s) (h : pq L ys d N M (pc', lv, (2, (c : Int)) :: st, s) Q) : pq L ys d N M (pc, lv, (2, (a : Int)) :: st, s) Q := by
  subst hp
  refine pq_i (C := True) hf rfl rfl (fun lv r hr => ?_) (fun _ => h)
  rw [hl] at hr
  obtain ⟨tys, t', v', e1, e2, e3, e4⟩ := im_getf_inv hr
  have e5 := hj.1.1 a ci tys e1 f v (by simpa using hv)
  rw [hc] at e5
  rw [cty_ok e1, ht] at e2
  cases e2
  unfold im_fo at e3
  rw [if_neg (by decide), if_pos rfl, e5, if_neg (by omega)] at e3
  cases e3
  exact ⟨e4, trivial⟩
theorem im_putf_inv {ci f w a : Nat} {v : im_V} {lv : List (Nat × im_V)} {r : im_N} (h : im_putf gG (some (0, ci, f, w)) (pc, lv, v :: (2, (a : Int)) :: st, s) = some r) : (∃ tys, gG[a]? = some (0, ci, tys)) ∧ rm_fin ci f = false ∧ r = (pc + 3, lv, st, cpf s a f v.2) := by
  replace h : (match gG[a]? with
    | some (0, ci', tys) => if decide (ci' = ci) && rm_fit (rm_ft ci f) (im_cv v) && !(rm_fin ci f) then (match tys[f]? with
      | some t => if im_tg t v then some (pc + 3, lv, st, im_up s.1 a f v.2, s.2) else none
      | none => none) else none
    | _ => none) = some r := h
  split at h
  · rename_i ci' tys hG
    split at h
    · rename_i e
      simp only [Bool.and_eq_true, decide_eq_true_eq, Bool.not_eq_true'] at e
      split at h
      · split at h
        · cases h
          obtain ⟨⟨rfl, _⟩, e2⟩ := e
          exact ⟨⟨tys, hG⟩, e2, rfl⟩
        · cases h
      · cases h
    · cases h
  · cases h
/-- into a field of a long number -/
theorem pq_pB {idx f w a : Nat} {v : im_V} (hf : rm_find M.1 pc = some (.putfield idx, 3)) (hl : rm_lk M.2.1 idx = some (0, 1, f, w)) (hp : pc + 3 = pc') (hn : nb a) (hj : jI s) (h : ∀ s', s' = cpf s a f v.2 → jI s' → pq L ys d N M (pc', lv, st, s') Q) : pq L ys d N M (pc, lv, v :: (2, (a : Int)) :: st, s) Q := by
  subst hp
  refine pq_i (C := jI (cpf s a f v.2)) hf rfl rfl (fun lv r hr => ?_) (fun c => h _ rfl c)
  rw [hl] at hr
  obtain ⟨⟨tys, e1⟩, e2, e3⟩ := im_putf_inv hr
  exact ⟨e3, jI_pB hj e1 e2 hn⟩
/-- into another field -/
theorem pq_pX {idx ci f w a : Nat} {v : im_V} (hf : rm_find M.1 pc = some (.putfield idx, 3)) (hl : rm_lk M.2.1 idx = some (0, ci, f, w)) (hp : pc + 3 = pc') (h1 : decide (ci ≠ 1) = true) (h3 : ci = 3 → f < 13 ∨ m4 v.2) (h2 : ci = 2 → m2 v.2) (hj : jI s) (h : ∀ s', s' = cpf s a f v.2 → jI s' → pq L ys d N M (pc', lv, st, s') Q) : pq L ys d N M (pc, lv, v :: (2, (a : Int)) :: st, s) Q := by
  subst hp
  refine pq_i (C := jI (cpf s a f v.2)) hf rfl rfl (fun lv r hr => ?_) (fun c => h _ rfl c)
  rw [hl] at hr
  obtain ⟨⟨tys, e1⟩, e2, e3⟩ := im_putf_inv hr
  exact ⟨e3, jI_pX hj e1 e2 (of_decide_eq_true h1) h3 h2⟩
theorem in_inv {i : Int} {n : Nat} (h : im_in i n = true) : 0 ≤ i ∧ i < n := by
  unfold im_in at h
  simpa using h
theorem gln_eq {a t n : Nat} {z : List Nat} (h : gG[a]? = some (t, n, z)) : gln a = n := by
  unfold gln
  rw [h]
  rfl
theorem pq_ia {a : Nat} {i : Int} (hf : rm_find M.1 pc = some (.iaload, 1)) (hp : pc + 1 = pc') (h : 0 ≤ i → i < gln a → iR (cga s a i) → pq L ys d N M (pc', lv, (0, cga s a i) :: st, s) Q) : pq L ys d N M (pc, lv, (0, i) :: (2, (a : Int)) :: st, s) Q := by
  subst hp
  refine pq_i (C := 0 ≤ i ∧ i < gln a ∧ iR (cga s a i)) hf rfl rfl (fun lv r hr => ?_) (fun c => h c.1 c.2.1 c.2.2)
  replace hr : (match gG[a]? with
    | some (1, n, _) => if im_in i n && im_iI (s.2 a i.toNat) then some (pc + 1, lv, (0, s.2 a i.toNat) :: st, s) else none
    | _ => none) = some r := hr
  split at hr
  · rename_i n z hG
    split at hr
    · rename_i e
      rw [Bool.and_eq_true] at e
      cases hr
      have e1 := in_inv e.1
      have e2 := e.2
      unfold im_iI at e2
      simp only [Bool.and_eq_true, decide_eq_true_eq] at e2
      exact ⟨rfl, e1.1, by rw [gln_eq hG]; exact e1.2, e2⟩
    · cases hr
  · cases hr
theorem pq_la {a : Nat} {i : Int} (hf : rm_find M.1 pc = some (.laload, 1)) (hp : pc + 1 = pc') (h : 0 ≤ i → i < gln a → lR (cga s a i) → pq L ys d N M (pc', lv, (1, cga s a i) :: st, s) Q) : pq L ys d N M (pc, lv, (0, i) :: (2, (a : Int)) :: st, s) Q := by
  subst hp
  refine pq_i (C := 0 ≤ i ∧ i < gln a ∧ lR (cga s a i)) hf rfl rfl (fun lv r hr => ?_) (fun c => h c.1 c.2.1 c.2.2)
  replace hr : (match gG[a]? with
    | some (2, n, _) => if im_in i n && im_iJ (s.2 a i.toNat) then some (pc + 1, lv, (1, s.2 a i.toNat) :: st, s) else none
    | _ => none) = some r := hr
  split at hr
  · rename_i n z hG
    split at hr
    · rename_i e
      rw [Bool.and_eq_true] at e
      cases hr
      have e1 := in_inv e.1
      have e2 := e.2
      unfold im_iJ at e2
      simp only [Bool.and_eq_true, decide_eq_true_eq] at e2
      exact ⟨rfl, e1.1, by rw [gln_eq hG]; exact e1.2, e2⟩
    · cases hr
  · cases hr
theorem pq_ba {a : Nat} {i : Int} (hf : rm_find M.1 pc = some (.baload, 1)) (hp : pc + 1 = pc') (h : 0 ≤ i → iR (cga s a i) → pq L ys d N M (pc', lv, (0, cga s a i) :: st, s) Q) : pq L ys d N M (pc, lv, (0, i) :: (2, (a : Int)) :: st, s) Q := by
  subst hp
  refine pq_i (C := 0 ≤ i ∧ iR (cga s a i)) hf rfl rfl (fun lv r hr => ?_) (fun c => h c.1 c.2)
  replace hr : (match gG[a]? with
    | some (4, n, _) => if im_in i n && im_iI (s.2 a i.toNat) then some (pc + 1, lv, (0, s.2 a i.toNat) :: st, s) else none
    | some (5, n, _) => if im_in i n && im_iI (s.2 a i.toNat) then some (pc + 1, lv, (0, s.2 a i.toNat) :: st, s) else none
    | _ => none) = some r := hr
  split at hr
  · split at hr
    · rename_i e
      rw [Bool.and_eq_true] at e
      cases hr
      have e1 := in_inv e.1
      have e2 := e.2
      unfold im_iI at e2
      simp only [Bool.and_eq_true, decide_eq_true_eq] at e2
      exact ⟨rfl, e1.1, e2⟩
    · cases hr
  · split at hr
    · rename_i e
      rw [Bool.and_eq_true] at e
      cases hr
      have e1 := in_inv e.1
      have e2 := e.2
      unfold im_iI at e2
      simp only [Bool.and_eq_true, decide_eq_true_eq] at e2
      exact ⟨rfl, e1.1, e2⟩
    · cases hr
  · cases hr
/-- a place of a row of references -/
theorem pq_aa {c b k n : Nat} {i m : Int} (hf : rm_find M.1 pc = some (.aaload, 1)) (hp : pc + 1 = pc') (hu : cU.contains (c, b, k, n) = true) (hn : ((gG[c]?.map (fun d => d.2.1)).getD 0 : Nat) = n) (hm : (n : Int) = m) (hj : jI s) (h : 0 ≤ i → i < m → pq L ys d N M (pc', lv, (2, ((b + k * i.toNat : Nat) : Int)) :: st, s) Q) : pq L ys d N M (pc, lv, (0, i) :: (2, (c : Int)) :: st, s) Q := by
  subst hp
  subst hm
  refine pq_i (C := 0 ≤ i ∧ i < (n : Int)) hf rfl rfl (fun lv r hr => ?_) (fun c => h c.1 c.2)
  replace hr : (match gG[c]? with
    | some (t + 1, n, _) => if im_in i n && decide (5 ≤ t) && decide (t < 8) then (if s.2 c i.toNat < 0 then some (pc + 1, lv, (3, 0) :: st, s) else some (pc + 1, lv, (2, s.2 c i.toNat) :: st, s)) else none
    | _ => none) = some r := hr
  split at hr
  · rename_i t n' z hG
    rw [hG] at hn
    have hn : n' = n := hn
    subst hn
    split at hr
    · rename_i e
      simp only [Bool.and_eq_true] at e
      have e1 := in_inv e.1.1
      have e2 := hj.1.2 c b k n' (by simpa using hu) i.toNat (by omega)
      rw [e2, if_neg (by omega)] at hr
      cases hr
      exact ⟨rfl, e1⟩
    · cases hr
  · cases hr
theorem pq_is {a : Nat} {i x : Int} (hf : rm_find M.1 pc = some (.iastore, 1)) (hp : pc + 1 = pc') (n1 : a ≠ 309) (n2 : a ≠ 554) (hj : jI s) (h : 0 ≤ i → i < gln a → ∀ s', s' = cpa s a i x → jI s' → pq L ys d N M (pc', lv, st, s') Q) : pq L ys d N M (pc, lv, (0, x) :: (0, i) :: (2, (a : Int)) :: st, s) Q := by
  subst hp
  refine pq_i (C := 0 ≤ i ∧ i < gln a ∧ jI (cpa s a i x)) hf rfl rfl (fun lv r hr => ?_) (fun c => h c.1 c.2.1 _ rfl c.2.2)
  replace hr : (match gG[a]? with
    | some (t' + 1, n, _) => if decide (t' = 0) && im_in i n && im_fit 0 x then some (pc + 1, lv, st, s.1, im_up s.2 a i.toNat x) else none
    | _ => none) = some r := hr
  split at hr
  · rename_i t n z hG
    split at hr
    · rename_i e
      simp only [Bool.and_eq_true, decide_eq_true_eq] at e
      cases hr
      have e1 := in_inv e.1.2
      exact ⟨rfl, e1.1, by rw [gln_eq hG]; exact e1.2, jI_pa hj hG (by omega) n1 n2⟩
    · cases hr
  · cases hr
theorem pq_bs {a : Nat} {i x : Int} (hf : rm_find M.1 pc = some (.bastore, 1)) (hp : pc + 1 = pc') (n1 : a ≠ 309) (n2 : a ≠ 554) (hj : jI s) (h : 0 ≤ i → ∀ s', s' = cpa s a i x → jI s' → pq L ys d N M (pc', lv, st, s') Q) : pq L ys d N M (pc, lv, (0, x) :: (0, i) :: (2, (a : Int)) :: st, s) Q := by
  subst hp
  refine pq_i (C := 0 ≤ i ∧ jI (cpa s a i x)) hf rfl rfl (fun lv r hr => ?_) (fun c => h c.1 _ rfl c.2)
  replace hr : (match gG[a]? with
    | some (4, _, _) => (match gG[a]? with
      | some (t' + 1, n, _) => if decide (t' = 3) && im_in i n && im_fit 3 x then some (pc + 1, lv, st, s.1, im_up s.2 a i.toNat x) else none
      | _ => none)
    | some (5, _, _) => (match gG[a]? with
      | some (t' + 1, n, _) => if decide (t' = 4) && im_in i n && im_fit 4 x then some (pc + 1, lv, st, s.1, im_up s.2 a i.toNat x) else none
      | _ => none)
    | _ => none) = some r := hr
  split at hr
  · rename_i n z hG
    rw [hG] at hr
    dsimp only at hr
    split at hr
    · rename_i e
      simp only [Bool.and_eq_true, decide_eq_true_eq] at e
      cases hr
      have e1 := in_inv e.1.2
      exact ⟨rfl, e1.1, jI_pa hj hG (by omega) n1 n2⟩
    · cases hr
  · rename_i n z hG
    rw [hG] at hr
    dsimp only at hr
    split at hr
    · rename_i e
      simp only [Bool.and_eq_true, decide_eq_true_eq] at e
      cases hr
      have e1 := in_inv e.1.2
      exact ⟨rfl, e1.1, jI_pa hj hG (by omega) n1 n2⟩
    · cases hr
  · cases hr
theorem pq_ls {a : Nat} {i x : Int} (hf : rm_find M.1 pc = some (.lastore, 1)) (hp : pc + 1 = pc') (hj : jI s) (h : 0 ≤ i → i < gln a → ∀ s', s' = cpa s a i x → jI s' → pq L ys d N M (pc', lv, st, s') Q) : pq L ys d N M (pc, lv, (1, x) :: (0, i) :: (2, (a : Int)) :: st, s) Q := by
  subst hp
  refine pq_i (C := 0 ≤ i ∧ i < gln a ∧ jI (cpa s a i x)) hf rfl rfl (fun lv r hr => ?_) (fun c => h c.1 c.2.1 _ rfl c.2.2)
  replace hr : (match gG[a]? with
    | some (2, n, _) => if im_in i n then some (pc + 1, lv, st, s.1, im_up s.2 a i.toNat x) else none
    | _ => none) = some r := hr
  split at hr
  · rename_i n z hG
    split at hr
    · rename_i e
      cases hr
      have e1 := in_inv e
      refine ⟨rfl, e1.1, by rw [gln_eq hG]; exact e1.2, jI_pa hj hG (by omega) ?_ ?_⟩
      · intro e; subst e; rw [g_309.1] at hG; cases hG
      · intro e; subst e; rw [g_309.2] at hG; cases hG
    · cases hr
  · cases hr
theorem pq_alen {a : Nat} (hf : rm_find M.1 pc = some (.arraylength, 1)) (hp : pc + 1 = pc') (h : pq L ys d N M (pc', lv, (0, gln a) :: st, s) Q) : pq L ys d N M (pc, lv, (2, (a : Int)) :: st, s) Q := by
  subst hp
  refine pq_i (C := True) hf rfl rfl (fun lv r hr => ?_) (fun _ => h)
  replace hr : (match gG[a]? with
    | some (t + 1, n, _) => if t < 8 then some (pc + 1, lv, (0, (Int32.ofNat n).toInt) :: st, s) else none
    | _ => none) = some r := hr
  split at hr
  · rename_i t n z hG
    split at hr
    · cases hr
      rw [gln_ok hG]
      exact ⟨rfl, trivial⟩
    · cases hr
  · cases hr
theorem gln_r (a : Nat) : iR (gln a) := by
  unfold gln
  cases h : gG[a]? with
  | none => exact ⟨by decide, by decide⟩
  | some q =>
    have h2 := List.all_eq_true.mp gln_all _ (List.mem_of_getElem? h)
    have h2 : q.2.1 < 2147483648 := by simpa using h2
    show iR ((q.2.1 : Nat) : Int)
    exact ⟨by omega, by omega⟩
theorem pq_cp {idx w1 w2 a b : Nat} {n dp sp : Int} (hf : rm_find M.1 pc = some (.invokestatic idx, 3)) (hl : rm_lk M.2.1 idx = some (3, w1, w2, 5)) (hp : pc + 3 = pc') (n1 : b ≠ 309) (n2 : b ≠ 554) (hj : jI s) (h : 0 ≤ n → ∀ s', s' = ccp s a b sp dp n → jI s' → pq L ys d N M (pc', lv, st, s') Q) : pq L ys d N M (pc, lv, (0, n) :: (0, dp) :: (2, (b : Int)) :: (0, sp) :: (2, (a : Int)) :: st, s) Q := by
  subst hp
  intro lv2 hs
  refine p0_ck hf rfl (fun r hr => ?_)
  dsimp only at hr
  rw [hl] at hr
  have hr : im_acopy gG (pc, lv2, (0, n) :: (0, dp) :: (2, (b : Int)) :: (0, sp) :: (2, (a : Int)) :: st, s) = some r := hr
  replace hr : (match gG[a]?, gG[b]? with
    | some (1, n0, _), some (1, n1, _) => if (0 ≤ sp ∧ 0 ≤ dp ∧ 0 ≤ n) ∧ sp + n ≤ n0 ∧ dp + n ≤ n1 ∧ (st.map fun v => if v.1 = 1 then 2 else 1).sum ≤ 8 then some (pc + 3, lv2, st, s.1, im_cp s.2 a b sp.toNat dp.toNat n.toNat) else none
    | _, _ => none) = some r := hr
  split at hr
  · rename_i n0 z0 n1' z1 hG0 hG1
    split at hr
    · rename_i e
      cases hr
      exact h e.1.2.2 _ rfl (jI_cp hj hG1 n1 n2) lv2 hs
    · cases hr
  · cases hr
theorem pq_vret (hf : rm_find M.1 pc = some (.return_, 1)) (h : Q (none, s)) : pq L ys d N M (pc, lv, [], s) Q := fun lv2 hs => by
  refine p0_ret hf rfl rfl (fun res hr => ?_)
  have hr : (if 1 = 1 ∧ M.2.2.2.1 = 0 then some (none, s) else none) = some res := hr
  split at hr
  · cases hr; exact h
  · cases hr
theorem pq_iret {x : Int} (hf : rm_find M.1 pc = some (.ireturn, 1)) (h : Q (some (0, x), s)) : pq L ys d N M (pc, lv, [(0, x)], s) Q := fun lv2 hs => by
  refine p0_ret hf rfl rfl (fun res hr => ?_)
  have hr : (if 1 = 1 ∧ (M.2.2.2.1 = 1 ∨ (M.2.2.2.1 = 2 ∧ (x = 0 ∨ x = 1)) ∨ (M.2.2.2.1 = 5 ∧ x = 0)) then some (some (0, x), s) else none) = some res := hr
  split at hr
  · cases hr; exact h
  · cases hr
theorem pq_lret {x : Int} (hf : rm_find M.1 pc = some (.lreturn, 1)) (h : Q (some (1, x), s)) : pq L ys d N M (pc, lv, [(1, x)], s) Q := fun lv2 hs => by
  refine p0_ret hf rfl rfl (fun res hr => ?_)
  have hr : (if 1 = 1 ∧ M.2.2.2.1 = 3 then some (some (1, x), s) else none) = some res := hr
  split at hr
  · cases hr; exact h
  · cases hr
theorem pq_aret {a : Int} (hf : rm_find M.1 pc = some (.areturn, 1)) (h : Q (some (2, a), s)) : pq L ys d N M (pc, lv, [(2, a)], s) Q := fun lv2 hs => by
  refine p0_ret hf rfl rfl (fun res hr => ?_)
  have hr : (if 1 = 1 ∧ M.2.2.2.1 = 4 then some (some (2, a), s) else none) = some res := hr
  split at hr
  · cases hr; exact h
  · cases hr
theorem pq_iand {x y : Int} (hf : rm_find M.1 pc = some (.iand, 1)) (hp : pc + 1 = pc') (h : pq L ys d N M (pc', lv, (0, andI x y) :: st, s) Q) : pq L ys d N M (pc, lv, (0, y) :: (0, x) :: st, s) Q := pq_ii hf rfl rfl hp h
theorem andI_r (x y : Int) : iR (andI x y) := i2_r _ _ _
theorem pq_ior {x y : Int} (hf : rm_find M.1 pc = some (.ior, 1)) (hp : pc + 1 = pc') (h : pq L ys d N M (pc', lv, (0, orI x y) :: st, s) Q) : pq L ys d N M (pc, lv, (0, y) :: (0, x) :: st, s) Q := pq_ii hf rfl rfl hp h
theorem orI_r (x y : Int) : iR (orI x y) := i2_r _ _ _
theorem pq_ixor {x y : Int} (hf : rm_find M.1 pc = some (.ixor, 1)) (hp : pc + 1 = pc') (h : pq L ys d N M (pc', lv, (0, xorI x y) :: st, s) Q) : pq L ys d N M (pc, lv, (0, y) :: (0, x) :: st, s) Q := pq_ii hf rfl rfl hp h
theorem xorI_r (x y : Int) : iR (xorI x y) := i2_r _ _ _
theorem pq_ishl {x y : Int} (hf : rm_find M.1 pc = some (.ishl, 1)) (hp : pc + 1 = pc') (h : pq L ys d N M (pc', lv, (0, shlI x y) :: st, s) Q) : pq L ys d N M (pc, lv, (0, y) :: (0, x) :: st, s) Q := pq_ii hf rfl rfl hp h
theorem shlI_r (x y : Int) : iR (shlI x y) := i2_r _ _ _
theorem pq_ishr {x y : Int} (hf : rm_find M.1 pc = some (.ishr, 1)) (hp : pc + 1 = pc') (h : pq L ys d N M (pc', lv, (0, shrI x y) :: st, s) Q) : pq L ys d N M (pc, lv, (0, y) :: (0, x) :: st, s) Q := pq_ii hf rfl rfl hp h
theorem shrI_r (x y : Int) : iR (shrI x y) := i2_r _ _ _
theorem pq_iushr {x y : Int} (hf : rm_find M.1 pc = some (.iushr, 1)) (hp : pc + 1 = pc') (h : pq L ys d N M (pc', lv, (0, ushI x y) :: st, s) Q) : pq L ys d N M (pc, lv, (0, y) :: (0, x) :: st, s) Q := pq_ii hf rfl rfl hp h
theorem ushI_r (x y : Int) : iR (ushI x y) := i2_r _ _ _
theorem pq_idiv {x y : Int} (hf : rm_find M.1 pc = some (.idiv, 1)) (hp : pc + 1 = pc') (h : pq L ys d N M (pc', lv, (0, divI x y) :: st, s) Q) : pq L ys d N M (pc, lv, (0, y) :: (0, x) :: st, s) Q := pq_iz hf rfl rfl hp h
theorem divI_r (x y : Int) : iR (divI x y) := i2_r _ _ _
theorem pq_irem {x y : Int} (hf : rm_find M.1 pc = some (.irem, 1)) (hp : pc + 1 = pc') (h : pq L ys d N M (pc', lv, (0, remI x y) :: st, s) Q) : pq L ys d N M (pc, lv, (0, y) :: (0, x) :: st, s) Q := pq_iz hf rfl rfl hp h
theorem remI_r (x y : Int) : iR (remI x y) := i2_r _ _ _
theorem pq_land {x y : Int} (hf : rm_find M.1 pc = some (.land, 1)) (hp : pc + 1 = pc') (h : pq L ys d N M (pc', lv, (1, andJ x y) :: st, s) Q) : pq L ys d N M (pc, lv, (1, y) :: (1, x) :: st, s) Q := pq_jj hf rfl rfl hp h
theorem andJ_r (x y : Int) : lR (andJ x y) := j2_r _ _ _
theorem pq_lor {x y : Int} (hf : rm_find M.1 pc = some (.lor, 1)) (hp : pc + 1 = pc') (h : pq L ys d N M (pc', lv, (1, orJ x y) :: st, s) Q) : pq L ys d N M (pc, lv, (1, y) :: (1, x) :: st, s) Q := pq_jj hf rfl rfl hp h
theorem orJ_r (x y : Int) : lR (orJ x y) := j2_r _ _ _
theorem pq_lxor {x y : Int} (hf : rm_find M.1 pc = some (.lxor, 1)) (hp : pc + 1 = pc') (h : pq L ys d N M (pc', lv, (1, xorJ x y) :: st, s) Q) : pq L ys d N M (pc, lv, (1, y) :: (1, x) :: st, s) Q := pq_jj hf rfl rfl hp h
theorem xorJ_r (x y : Int) : lR (xorJ x y) := j2_r _ _ _
theorem pq_ldiv {x y : Int} (hf : rm_find M.1 pc = some (.ldiv, 1)) (hp : pc + 1 = pc') (h : pq L ys d N M (pc', lv, (1, divJ x y) :: st, s) Q) : pq L ys d N M (pc, lv, (1, y) :: (1, x) :: st, s) Q := pq_jz hf rfl rfl hp (fun _ => h)
theorem divJ_r (x y : Int) : lR (divJ x y) := j2_r _ _ _
theorem pq_lrem {x y : Int} (hf : rm_find M.1 pc = some (.lrem, 1)) (hp : pc + 1 = pc') (h : pq L ys d N M (pc', lv, (1, remJ x y) :: st, s) Q) : pq L ys d N M (pc, lv, (1, y) :: (1, x) :: st, s) Q := pq_jz hf rfl rfl hp (fun _ => h)
theorem remJ_r (x y : Int) : lR (remJ x y) := j2_r _ _ _
theorem pq_lshl {x y : Int} (hf : rm_find M.1 pc = some (.lshl, 1)) (hp : pc + 1 = pc') (h : pq L ys d N M (pc', lv, (1, shlJ x y) :: st, s) Q) : pq L ys d N M (pc, lv, (0, y) :: (1, x) :: st, s) Q := pq_jij hf rfl rfl hp h
theorem shlJ_r (x y : Int) : lR (shlJ x y) := ji2_r _ _ _
theorem pq_lshr {x y : Int} (hf : rm_find M.1 pc = some (.lshr, 1)) (hp : pc + 1 = pc') (h : pq L ys d N M (pc', lv, (1, shrJ x y) :: st, s) Q) : pq L ys d N M (pc, lv, (0, y) :: (1, x) :: st, s) Q := pq_jij hf rfl rfl hp h
theorem shrJ_r (x y : Int) : lR (shrJ x y) := ji2_r _ _ _
theorem pq_lushr {x y : Int} (hf : rm_find M.1 pc = some (.lushr, 1)) (hp : pc + 1 = pc') (h : pq L ys d N M (pc', lv, (1, ushJ x y) :: st, s) Q) : pq L ys d N M (pc, lv, (0, y) :: (1, x) :: st, s) Q := pq_jij hf rfl rfl hp h
theorem ushJ_r (x y : Int) : lR (ushJ x y) := ji2_r _ _ _
/-- a static call -/
theorem pq_cS {idx mi na : Nat} {av rest st0 : List im_V} (hf : rm_find M.1 pc = some (.invokestatic idx, 3)) (hl : rm_lk M.2.1 idx = some (3, mi, na, 0)) (hp : pc + 3 = pc') (e1 : st0.drop na = rest) (e2 : (st0.take na).reverse = av) (h : ∀ res, im_call gG rm_P L ys d mi av s res → pq L ys d N M (pc', lv, res.1.toList ++ rest, res.2) Q) : pq L ys d N M (pc, lv, st0, s) Q := by
  subst hp
  intro lv2 hs
  refine p0_ck hf rfl (fun r hr => ?_)
  dsimp only at hr
  rw [hl] at hr
  obtain ⟨_, _, res, h1, h2⟩ : na ≤ st0.length ∧ im_cs (st0.drop na) ≤ 8 ∧ ∃ res, im_call gG rm_P L ys d mi (st0.take na).reverse s res ∧ r = im_aft (pc, lv2, st0, s) (st0.drop na) res := hr
  rw [e2] at h1
  rw [e1] at h2
  subst h2
  exact h res h1 lv2 hs
theorem pq_cV {idx mi na a : Nat} {av rest st0 : List im_V} (hf : rm_find M.1 pc = some (.invokevirtual idx, 3)) (hl : rm_lk M.2.1 idx = some (3, mi, na, 1)) (hp : pc + 3 = pc') (e1 : st0.drop na = (2, (a : Int)) :: rest) (e2 : (st0.take na).reverse = av) (h : ∀ res, im_call gG rm_P L ys d mi ((2, (a : Int)) :: av) s res → pq L ys d N M (pc', lv, res.1.toList ++ rest, res.2) Q) : pq L ys d N M (pc, lv, st0, s) Q := by
  subst hp
  intro lv2 hs
  refine p0_ck hf rfl (fun r hr => ?_)
  dsimp only at hr
  rw [hl] at hr
  obtain ⟨a', rest', tys, h0, _, _, res, h1, h2⟩ : ∃ a rest tys, st0.drop na = (2, a) :: rest ∧ im_cs rest ≤ 8 ∧ gG[a.toNat]? = some (0, (rm_P mi).2.2.2.2.2, tys) ∧ ∃ res, im_call gG rm_P L ys d mi ((2, a) :: (st0.take na).reverse) s res ∧ r = im_aft (pc, lv2, st0, s) rest res := hr
  rw [e1] at h0
  cases h0
  rw [e2] at h1
  subst h2
  exact h res h1 lv2 hs
theorem pq_cSV {idx mi na : Nat} {av rest st0 : List im_V} {R : im_S → Prop} (hf : rm_find M.1 pc = some (.invokestatic idx, 3)) (hl : rm_lk M.2.1 idx = some (3, mi, na, 0)) (hp : pc + 3 = pc') (e1 : st0.drop na = rest) (e2 : (st0.take na).reverse = av) (hc : pcV L ys d mi av s R) (h : ∀ s', R s' → pq L ys d N M (pc', lv, rest, s') Q) : pq L ys d N M (pc, lv, st0, s) Q :=
  pq_cS hf hl hp e1 e2 (fun res hr => by
    obtain ⟨h1, h2⟩ := hc res hr
    rw [h1]
    exact h _ h2)
theorem pq_cSI {idx mi na t : Nat} {av rest st0 : List im_V} {R : Int → im_S → Prop} (hf : rm_find M.1 pc = some (.invokestatic idx, 3)) (hl : rm_lk M.2.1 idx = some (3, mi, na, 0)) (hp : pc + 3 = pc') (e1 : st0.drop na = rest) (e2 : (st0.take na).reverse = av) (hc : pcI L ys t d mi av s R) (h : ∀ z s', R z s' → pq L ys d N M (pc', lv, (t, z) :: rest, s') Q) : pq L ys d N M (pc, lv, st0, s) Q :=
  pq_cS hf hl hp e1 e2 (fun res hr => by
    obtain ⟨z, h1, h2⟩ := hc res hr
    rw [h1]
    exact h _ _ h2)
theorem pq_cVV {idx mi na a : Nat} {av rest st0 : List im_V} {R : im_S → Prop} (hf : rm_find M.1 pc = some (.invokevirtual idx, 3)) (hl : rm_lk M.2.1 idx = some (3, mi, na, 1)) (hp : pc + 3 = pc') (e1 : st0.drop na = (2, (a : Int)) :: rest) (e2 : (st0.take na).reverse = av) (hc : pcV L ys d mi ((2, (a : Int)) :: av) s R) (h : ∀ s', R s' → pq L ys d N M (pc', lv, rest, s') Q) : pq L ys d N M (pc, lv, st0, s) Q :=
  pq_cV hf hl hp e1 e2 (fun res hr => by
    obtain ⟨h1, h2⟩ := hc res hr
    rw [h1]
    exact h _ h2)
theorem pq_cVI {idx mi na a t : Nat} {av rest st0 : List im_V} {R : Int → im_S → Prop} (hf : rm_find M.1 pc = some (.invokevirtual idx, 3)) (hl : rm_lk M.2.1 idx = some (3, mi, na, 1)) (hp : pc + 3 = pc') (e1 : st0.drop na = (2, (a : Int)) :: rest) (e2 : (st0.take na).reverse = av) (hc : pcI L ys t d mi ((2, (a : Int)) :: av) s R) (h : ∀ z s', R z s' → pq L ys d N M (pc', lv, (t, z) :: rest, s') Q) : pq L ys d N M (pc, lv, st0, s) Q :=
  pq_cV hf hl hp e1 e2 (fun res hr => by
    obtain ⟨z, h1, h2⟩ := hc res hr
    rw [h1]
    exact h _ _ h2)
theorem pq_cVR {idx mi na a : Nat} {av rest st0 : List im_V} {R : Nat → im_S → Prop} (hf : rm_find M.1 pc = some (.invokevirtual idx, 3)) (hl : rm_lk M.2.1 idx = some (3, mi, na, 1)) (hp : pc + 3 = pc') (e1 : st0.drop na = (2, (a : Int)) :: rest) (e2 : (st0.take na).reverse = av) (hc : pcR L ys d mi ((2, (a : Int)) :: av) s R) (h : ∀ b s', R b s' → pq L ys d N M (pc', lv, (2, (b : Int)) :: rest, s') Q) : pq L ys d N M (pc, lv, st0, s) Q :=
  pq_cV hf hl hp e1 e2 (fun res hr => by
    obtain ⟨z, h1, h2⟩ := hc res hr
    rw [h1]
    exact h _ _ h2)
theorem pq_start {mi : Nat} {av : List im_V} {Q : im_Re → Prop} (hM : rm_P mi = M) (h : ∀ d N, pq L ys d N M (0, im_args 0 av, [], s) Q) (res : im_Re) (hc : im_call gG rm_P L ys d mi av s res) : Q res := by
  cases d with
  | zero => cases hc
  | succ d =>
    obtain ⟨_, f, h2⟩ : (lg_sl (av.map im_cv)).length ≤ (rm_P mi).2.2.1 ∧ ∃ f, im_loop gG (im_call gG rm_P L ys d) rm_P (rm_P mi) L ys f (0, im_args 0 av, [], s) res := hc
    rw [hM] at h2
    exact h d f _ (im_sub_refl _) f (Nat.le_refl _) res h2
end PQ
/-- a loop: something that holds each time -/
def ploop {α : Type} (B : (α → Prop) → α → Prop) (a : α) : Prop := ∃ I : α → Prop, I a ∧ ∀ a, I a → B I a
theorem m4_nb {x : Nat} (h : m4 ((x : Nat) : Int)) : nb x := by
  unfold m4 at h
  exact ⟨by omega, by omega⟩
theorem jI_m {s : im_S} (h : jI s) : m4 ((crf s 83 13 : Nat) : Int) ∧ m4 ((crf s 83 14 : Nat) : Int) ∧ m4 ((crf s 83 15 : Nat) : Int) ∧ m4 ((crf s 83 16 : Nat) : Int) := by
  have k : ∀ f, m4 (s.1 83 f) → m4 ((crf s 83 f : Nat) : Int) := by
    intro f hf
    unfold crf
    rw [Int.toNat_of_nonneg (by unfold m4 at hf; omega)]
    exact hf
  exact ⟨k _ h.2.2.1.1, k _ h.2.2.1.2.1, k _ h.2.2.1.2.2.1, k _ h.2.2.1.2.2.2⟩
theorem jI_m0 {s : im_S} (h : jI s) : 0 ≤ s.1 83 13 ∧ 0 ≤ s.1 83 14 ∧ 0 ≤ s.1 83 15 ∧ 0 ≤ s.1 83 16 := by
  have z := h.2.2.1
  unfold m4 at z
  omega
theorem jI_d {s : im_S} (h : jI s) : m2 ((crf s 247 3 : Nat) : Int) ∧ m2 ((crf s 247 4 : Nat) : Int) := by
  have k : ∀ f, m2 (s.1 247 f) → m2 ((crf s 247 f : Nat) : Int) := by
    intro f hf
    unfold crf
    rw [Int.toNat_of_nonneg (by unfold m2 at hf; omega)]
    exact hf
  exact ⟨k _ h.2.2.2.1, k _ h.2.2.2.2⟩
theorem jI_d0 {s : im_S} (h : jI s) : 0 ≤ s.1 247 3 ∧ 0 ≤ s.1 247 4 := by
  have z := h.2.2.2
  unfold m2 at z
  omega
/-- what a place of a row tells by having been read -/
def caI (s : im_S) (a : Nat) (i : Int) : Prop := (0 ≤ i ∧ i < gln a) ∧ iR (cga s a i)
def caJ (s : im_S) (a : Nat) (i : Int) : Prop := (0 ≤ i ∧ i < gln a) ∧ lR (cga s a i)
theorem min_r {x y : Int} (hx : iR x) (hy : iR y) : iR (min x y) := ⟨by have := hx.1; have := hy.1; omega, by have := hx.2; omega⟩
