/-! THE SIGN OF AN ATOM AT A FRACTION -/
def hB (q : Int) : Nat → Int
  | 0 => 1
  | t + 1 => hB q t * q
def hA (P : po) (p q : Int) (d : Nat) : Nat → Int
  | 0 => P d
  | t + 1 => hA P p q d t * p + P (d - 1 - t) * hB q (t + 1)
def dgp (d : Int) (P : po) : Prop := -1 ≤ d ∧ d ≤ 8 ∧ (∀ k : Nat, k < 9 → d < (k : Int) → P k = 0) ∧ (0 ≤ d → P d.toNat ≠ 0)
theorem dgp_u {d d' : Int} {P : po} (h : dgp d P) (h' : dgp d' P) : d = d' := by
  obtain ⟨a, b, c, e⟩ := h
  obtain ⟨a', b', c', e'⟩ := h'
  by_cases x : d < d'
  · exact absurd (c d'.toNat (by omega) (by omega)) (e' (by omega))
  · by_cases y : d' < d
    · exact absurd (c' d.toNat (by omega) (by omega)) (e (by omega))
    · omega
/-- z is the sign of P at p / q -/
def sgA (P : po) (p q z : Int) : Prop := ∃ d, dgp d P ∧ ((d < 0 ∧ z = 0) ∨ (0 ≤ d ∧ z = (hA P p q d.toNat d.toNat).sign))
theorem hA_co {P P' : po} {p q : Int} {d : Nat} (h : ∀ k, k < 9 → P k = P' k) (hd : d ≤ 8) : ∀ t, hA P p q d t = hA P' p q d t
  | 0 => h d (by omega)
  | t + 1 => by
    show hA P p q d t * p + P (d - 1 - t) * hB q (t + 1) = hA P' p q d t * p + P' (d - 1 - t) * hB q (t + 1)
    rw [hA_co h hd t, h (d - 1 - t) (by omega)]
theorem dgp_co {P P' : po} {d : Int} (h : ∀ k, k < 9 → P k = P' k) (hd : dgp d P) : dgp d P' := by
  obtain ⟨a, b, c, e⟩ := hd
  exact ⟨a, b, fun k k9 dk => by rw [← h k k9]; exact c k k9 dk, fun d0 => by rw [← h d.toNat (by omega)]; exact e d0⟩
theorem sgA_u {P P' : po} {p q z z' : Int} (h : ∀ k, k < 9 → P k = P' k) (g : sgA P p q z) (g' : sgA P' p q z') : z = z' := by
  obtain ⟨d, hd, w⟩ := g
  obtain ⟨d', hd', w'⟩ := g'
  have e := dgp_u (dgp_co h hd) hd'
  subst e
  rcases w with ⟨a, b⟩ | ⟨a, b⟩
  · rcases w' with ⟨a', b'⟩ | ⟨a', b'⟩ <;> omega
  · rcases w' with ⟨a', b'⟩ | ⟨a', b'⟩
    · omega
    · rw [b, b', hA_co h (by have := hd.2.1; omega)]
theorem pw_s (W t : Nat) : W ^ (t + 1) = W ^ t * W := rfl
theorem hB_b {q : Int} (h : q.natAbs ≤ 1000000000) : ∀ t : Nat, (hB q t).natAbs < 4294967296 ^ (t + 1)
  | 0 => by show (1 : Int).natAbs < _; decide
  | t + 1 => by
    show (hB q t * q).natAbs < _
    rw [Int.natAbs_mul, pw_s]
    have a := hB_b h t
    have b : (hB q t).natAbs * q.natAbs ≤ (hB q t).natAbs * 1000000000 := Nat.mul_le_mul_left _ h
    generalize 4294967296 ^ (t + 1) = X at a ⊢
    omega
theorem hA_b {P : po} {p q : Int} {d : Nat} (hp : p.natAbs ≤ 1000000000) (hq : q.natAbs ≤ 1000000000) (hP : fin9 P) (hd : d ≤ 8) : ∀ t : Nat, (hA P p q d t).natAbs < 4294967296 ^ (t + 2)
  | 0 => by
    show (P d).natAbs < _
    have := hP d (by omega)
    have : (4294967296 : Nat) ^ (0 + 2) = 18446744073709551616 := by decide
    omega
  | t + 1 => by
    show (hA P p q d t * p + P (d - 1 - t) * hB q (t + 1)).natAbs < _
    have a := hA_b hp hq hP hd t
    have b := hB_b hq (t + 1)
    have c := hP (d - 1 - t) (by omega)
    have m1 : (hA P p q d t * p).natAbs ≤ (hA P p q d t).natAbs * 1000000000 := by rw [Int.natAbs_mul]; exact Nat.mul_le_mul_left _ hp
    have m2 : (P (d - 1 - t) * hB q (t + 1)).natAbs ≤ 1000000000 * (hB q (t + 1)).natAbs := by rw [Int.natAbs_mul]; exact Nat.mul_le_mul_right _ (by omega)
    have m3 := Int.natAbs_add_le (hA P p q d t * p) (P (d - 1 - t) * hB q (t + 1))
    rw [pw_s]
    have e : (4294967296 : Nat) ^ (t + 1 + 1) = 4294967296 ^ (t + 2) := rfl
    rw [e] at b
    rw [show t + 1 + 1 = t + 2 from rfl]
    generalize (4294967296 : Nat) ^ (t + 2) = X at a b ⊢
    omega
theorem n_lt {x : Int} {n : Nat} (h : x.natAbs < 4294967296 ^ n) : (x.natAbs : Int) < 4294967296 ^ n := by
  have : ((4294967296 ^ n : Nat) : Int) = 4294967296 ^ n := by rw [Int.natCast_pow]; rfl
  rw [← this]
  exact Int.ofNat_lt.2 h
theorem n_lt2 {x : Int} {n m : Nat} (h : x.natAbs < 4294967296 ^ n) (hm : n ≤ m) : (x.natAbs : Int) < 4294967296 ^ m := n_lt (Nat.lt_of_lt_of_le h (Nat.pow_le_pow_right (by decide) hm))
theorem rm_of {a n : Nat} (h : gln (a + 1) = (n : Int)) : rm9 a = n := by unfold rm9; rw [h]; rfl
theorem slp_g {s : im_S} {a : Nat} {P : po} (h : slp s a P) : dgp (s.1 a 0) P := by
  obtain ⟨x, y, z, w⟩ := slp_d h
  exact ⟨x, y, z, fun d0 => w _ (by omega)⟩
/-- signAtFraction of the class, by value -/
theorem signAtF_b {c : Nat} {P : po} {a q : Int} {s : im_S} {Q : Int → im_S → Prop} (hf : ∃ lo hi mi ot, fq s lo hi mi ot) (hc : c ≤ 550) (h : slp s c P) (hP : fin9 P) (ha : a.natAbs ≤ 1000000000) (hq : q.natAbs ≤ 1000000000) (hQ : ∀ z s', sgA P a q z → wkf s s' → Q z s') : C_signAtFraction3 c a q s Q := by
  obtain ⟨lo, hi, mi, ot, hf⟩ := hf
  have v := hf.2.1.2.2.2
  have u := v4_r v
  have gv := gln_v
  have g4 := gln_v4 v
  refine set_b ⟨by omega, by omega⟩ (by omega) (by rw [gv.2.2.2.2.2.2.1]; decide) (fun s1 h1 f1 => ?_)
  refine set_b ⟨by omega, by omega⟩ (by omega) (by rw [gv.2.2.2.2.2.2.2.1]; decide) (fun s2 h2 f2 => ?_)
  refine set_b ⟨by omega, by omega⟩ (by omega) (by rw [gv.2.2.2.2.2.2.2.2.2.2]; decide) (fun s3 h3 f3 => ?_)
  have w3 : wkf s s3 := wkf_b (wkf_b (wkf_b (gfr_refl _ _ _) f1 (by omega) (by omega)) f2 (by omega) (by omega)) f3 (by omega) (by omega)
  have cr : ∀ s', wkf s s' → crf s' 83 16 = ot := fun s' w => (fq_r (fq_co hf w (fun k => by omega))).2.2.2
  have sl : ∀ s', wkf s s' → slp s' c P := fun s' w => slp_fr h w (by omega) (by omega)
  have dg := slp_g h
  obtain ⟨dd, hdd⟩ : ∃ dd, dd = s.1 c 0 := ⟨_, rfl⟩
  rw [← hdd] at dg
  have dd3 : cgf s3 c 0 = dd := (w3.1 _ _ (by omega)).trans hdd.symm
  intro z ez
  rw [dd3] at ez
  rw [cr s3 w3]
  have zb : -1000000000 ≤ z ∧ z ≤ 1000000000 := by
    rw [ez]
    split
    · rename_i d0
      have e : cga s3 (c + 1) dd = P dd.toNat := slp_r (sl s3 w3) (by have := dg.2.1; omega)
      rw [e]
      exact hP _ (by have := dg.2.1; omega)
    · omega
  refine set_b ⟨by omega, by omega⟩ (by omega) (by rw [g4]; decide) (fun s4 h4 f4 => ?_)
  have w4 : wkf s s4 := wkf_b w3 f4 (by omega) (by omega)
  have dd4 : cgf s4 c 0 = dd := (w4.1 _ _ (by omega)).trans hdd.symm
  have d8 := dg.2.1
  have d1 := dg.1
  rw [dd4, w32_id (by omega) (by omega)]
  by_cases d0 : dd < 0
  · refine ⟨fun b => b.1 < 0 ∧ b.2 = s4, ⟨by omega, rfl⟩, ?_⟩
    rintro ⟨x, s5⟩ ⟨x0, e⟩
    dsimp only at x0 e ⊢
    subst e
    refine ⟨fun _ => ?_, fun c => absurd x0 c⟩
    rw [cr s5 w4, show cgf s5 ot 2 = z.sign from big_mk h4]
    have z0 : z = 0 := by rw [ez, if_neg (by omega)]
    exact hQ _ s5 ⟨dd, dg, Or.inl ⟨d0, by rw [z0]; rfl⟩⟩ w4
  obtain ⟨d, ed⟩ : ∃ d : Nat, dd = (d : Int) := ⟨dd.toNat, by omega⟩
  subst ed
  have z0 : z = P d := by
    rw [ez, if_pos (by omega)]
    exact slp_r (sl s3 w3) (by omega)
  subst z0
  have b1 : big s4 561 a := big_fr (big_fr (big_fr h1 f2 (by decide)) f3 (by decide)) f4 (by omega)
  have b2 : big s4 555 q := big_fr (big_fr h2 f3 (by decide)) f4 (by omega)
  have b3 : big s4 567 1 := big_fr h3 f4 (by omega)
  refine ⟨fun b => ∃ t : Nat, t ≤ d ∧ b.1 = (d : Int) - 1 - t ∧ wkf s b.2 ∧ big b.2 561 a ∧ big b.2 555 q ∧ big b.2 567 (hB q t) ∧ big b.2 ot (hA P a q d t), ⟨0, by omega, by omega, w4, b1, b2, b3, h4⟩, ?_⟩
  rintro ⟨x, s5⟩ ⟨t, td, ex, w5, c1, c2, c3, c4⟩
  dsimp only at ex w5 c1 c2 c3 c4 ⊢
  subst ex
  refine ⟨fun n => ?_, fun n => ?_⟩
  · have et : t = d := by omega
    subst et
    rw [cr s5 w5, show cgf s5 ot 2 = _ from big_mk c4]
    exact hQ _ s5 ⟨(t : Int), dg, Or.inr ⟨by omega, rfl⟩⟩ w5
  rw [cr s5 w5]
  have kA := hA_b ha hq hP (show d ≤ 8 by omega) t
  have kA1 := hA_b ha hq hP (show d ≤ 8 by omega) (t + 1)
  have kB := hB_b hq t
  have kB1 := hB_b hq (t + 1)
  have e2 : (4294967296 : Nat) ^ 1 = 4294967296 := by decide
  have ap : a.natAbs < 4294967296 ^ 1 := by rw [e2]; omega
  have qp : q.natAbs < 4294967296 ^ 1 := by rw [e2]; omega
  refine setProduct_b c4 c1 (by omega) (by decide) (by rw [gv.2.2.2.2.2.1]; decide) (t + 2) 1 (n_lt kA) (n_lt ap) (by rw [gv.2.2.2.2.2.1]; omega) (fun s6 h6 f6 => ?_)
  have w6 : wkf s s6 := wkf_b w5 f6 (by omega) (by omega)
  rw [cr s6 w6]
  have mA : (hA P a q d t * a).natAbs < 4294967296 ^ (t + 3) := by
    rw [Int.natAbs_mul, pw_s]
    have : (hA P a q d t).natAbs * a.natAbs ≤ (hA P a q d t).natAbs * 1000000000 := Nat.mul_le_mul_left _ ha
    generalize (4294967296 : Nat) ^ (t + 2) = X at kA ⊢
    omega
  refine copy_b h6 (by omega) (by rw [rm_of (n := 196) g4]; exact n_lt2 mA (by omega)) (by rw [g4]; decide) (fun s7 h7 f7 => ?_)
  have w7 : wkf s s7 := wkf_b w6 f7 (by omega) (by omega)
  have p7 : big s7 567 (hB q t) := big_fr (big_fr c3 f6 (by decide)) f7 (by omega)
  have q7 : big s7 555 q := big_fr (big_fr c2 f6 (by decide)) f7 (by omega)
  refine setProduct_b p7 q7 (by decide) (by decide) (by rw [gv.2.2.2.2.2.1]; decide) (t + 1) 1 (n_lt kB) (n_lt qp) (by rw [gv.2.2.2.2.2.1]; omega) (fun s8 h8 f8 => ?_)
  have w8 : wkf s s8 := wkf_b w7 f8 (by omega) (by omega)
  refine copy_b h8 (by decide) (by rw [rm_of (n := 24) gv.2.2.2.2.2.2.2.2.2.2]; exact n_lt2 kB1 (by omega)) (by rw [gv.2.2.2.2.2.2.2.2.2.2]; decide) (fun s9 h9 f9 => ?_)
  have w9 : wkf s s9 := wkf_b w8 f9 (by omega) (by omega)
  intro _
  have kk : ((d : Int) - 1 - t).toNat = d - 1 - t := by omega
  have ef : cga s9 (c + 1) ((d : Int) - 1 - t) = P (d - 1 - t) := by
    show s9.2 (c + 1) _ = _
    rw [kk]
    exact slp_r (sl s9 w9) (by omega)
  rw [ef]
  have fb := hP (d - 1 - t) (by omega)
  refine set_b ⟨by omega, by omega⟩ (by omega) (by rw [gv.2.2.2.2.1]; decide) (fun s10 h10 f10 => ?_)
  have w10 : wkf s s10 := wkf_b w9 f10 (by omega) (by omega)
  have h9' : big s10 567 (hB q (t + 1)) := big_fr h9 f10 (by decide)
  have fp : (P (d - 1 - t)).natAbs < 4294967296 ^ 1 := by rw [e2]; omega
  refine setProduct_b h9' h10 (by decide) (by decide) (by rw [gv.2.2.2.2.2.1]; decide) (t + 2) 1 (n_lt kB1) (n_lt fp) (by rw [gv.2.2.2.2.2.1]; omega) (fun s11 h11 f11 => ?_)
  have w11 : wkf s s11 := wkf_b w10 f11 (by omega) (by omega)
  rw [cr s11 w11]
  have o11 : big s11 ot (hA P a q d t * a) := big_fr (big_fr (big_fr (big_fr h7 f8 (by omega)) f9 (by omega)) f10 (by omega)) f11 (by omega)
  have mB : (hB q (t + 1) * P (d - 1 - t)).natAbs < 4294967296 ^ (t + 3) := by
    rw [Int.natAbs_mul, pw_s]
    have : (hB q (t + 1)).natAbs * (P (d - 1 - t)).natAbs ≤ (hB q (t + 1)).natAbs * 1000000000 := Nat.mul_le_mul_left _ (by omega)
    have e : (4294967296 : Nat) ^ (t + 1 + 1) = 4294967296 ^ (t + 2) := rfl
    rw [e] at kB1
    generalize (4294967296 : Nat) ^ (t + 2) = X at kB1 ⊢
    omega
  have sm : ((hA P a q d t * a).natAbs : Int) + ((hB q (t + 1) * P (d - 1 - t)).natAbs : Int) < 4294967296 ^ rm9 ot := by
    rw [rm_of (n := 196) g4]
    have x1 := n_lt2 mA (m := 100) (by omega)
    have x2 := n_lt2 mB (m := 100) (by omega)
    have x3 : (4294967296 : Int) ^ 100 * 2 ≤ 4294967296 ^ 196 := by decide +kernel
    omega
  refine add_b o11 h11 (by omega) (by rw [g4]; decide) (Or.inl rfl) sm (fun s12 h12 f12 => ?_)
  have w12 : wkf s s12 := wkf_b w11 f12 (by omega) (by omega)
  refine ⟨t + 1, by omega, by rw [w32_id (by omega) (by omega)]; omega, w12, ?_, ?_, ?_, ?_⟩
  · exact big_fr (big_fr (big_fr (big_fr (big_fr (big_fr (big_fr c1 f6 (by decide)) f7 (by omega)) f8 (by decide)) f9 (by decide)) f10 (by decide)) f11 (by decide)) f12 (by omega)
  · exact big_fr (big_fr (big_fr (big_fr (big_fr q7 f8 (by decide)) f9 (by decide)) f10 (by decide)) f11 (by decide)) f12 (by omega)
  · exact big_fr (big_fr h9' f11 (by decide)) f12 (by omega)
  · have e : hA P a q d t * a + 1 * (hB q (t + 1) * P (d - 1 - t)) = hA P a q d (t + 1) := by
      show _ = hA P a q d t * a + P (d - 1 - t) * hB q (t + 1)
      rw [Int.one_mul, Int.mul_comm (hB q (t + 1))]
    rw [← e]
    exact h12
/-- signAt of the class -/
theorem signAt_v {x a q : Int} {A : ats} {s : im_S} {Q : Int → im_S → Prop} (hk : kp1 s) (h : s.1 0 3 = 0 ∨ tat s A) (hQ : ∀ z s', ((s.1 0 3 = 0 ∨ x < 0 ∨ s.1 2 11 ≤ x ∨ q < 1 ∨ 1000000000 < q ∨ a < -1000000000 ∨ 1000000000 < a) ∧ z = -2) ∨ ((s.1 0 3 ≠ 0 ∧ 0 ≤ x ∧ x < s.1 2 11 ∧ 1 ≤ q ∧ q ≤ 1000000000 ∧ -1000000000 ≤ a ∧ a ≤ 1000000000) ∧ ∃ P w, A[x.toNat]? = some (P, w) ∧ sgA P a q z) → Q z s') : C_signAt9 x a q s Q := by
  intro v ev
  by_cases g : s.1 0 3 = 0 ∨ x < 0 ∨ s.1 2 11 ≤ x
  · have v0 : v = 0 := by
      rw [ev]
      show (if s.1 0 3 = 0 then (0 : Int) else (if x < 0 then 0 else (if s.1 2 11 ≤ x then 0 else 1))) = 0
      split
      · rfl
      · split
        · rfl
        · split
          · rfl
          · omega
    exact ⟨fun _ => hQ _ _ (Or.inl ⟨by omega, rfl⟩), fun c => absurd v0 c⟩
  have v1 : v = 1 := by
    rw [ev]
    show (if s.1 0 3 = 0 then (0 : Int) else (if x < 0 then 0 else (if s.1 2 11 ≤ x then 0 else 1))) = 1
    rw [if_neg (by omega), if_neg (by omega), if_neg (by omega)]
  refine ⟨fun c => absurd c (by omega), fun _ w ew => ?_⟩
  by_cases f : q < 1 ∨ 1000000000 < q ∨ a < -1000000000 ∨ 1000000000 < a
  · have w0 : w = 0 := by
      rw [ew]
      split
      · rfl
      · split
        · rfl
        · split
          · rfl
          · split
            · rfl
            · omega
    exact ⟨fun c => absurd w0 c, fun _ => hQ _ _ (Or.inl ⟨by omega, rfl⟩)⟩
  have w1 : w = 1 := by rw [ew, if_neg (by omega), if_neg (by omega), if_neg (by omega), if_neg (by omega)]
  refine ⟨fun _ => ?_, fun c => absurd c (by omega)⟩
  rcases h with h | h
  · omega
  obtain ⟨t1, t2, t3⟩ := h
  have xl : x.toNat < A.length := by omega
  obtain ⟨pw, hpw⟩ : ∃ pw, A[x.toNat]? = some pw := ⟨A[x.toNat], List.getElem?_eq_getElem xl⟩
  obtain ⟨P, w⟩ := pw
  obtain ⟨u1, u2, u3⟩ := t3 x.toNat P w hpw
  exact signAtF_b hk.2.1 (by omega) u1 u2 (by omega) (by omega) (fun z s' hz _ => hQ _ _ (Or.inr ⟨by omega, P, w, hpw, hz⟩))
