/-! POLYNOMIALS OF THE CLASS BY VALUE -/
def gfr (F : Nat → Nat → Prop) (R : Nat → Prop) (s s' : im_S) : Prop := (∀ c f, ¬ F c f → s'.1 c f = s.1 c f) ∧ ∀ c, ¬ R c → s'.2 c = s.2 c
theorem gfr_refl (F : Nat → Nat → Prop) (R : Nat → Prop) (s : im_S) : gfr F R s s := ⟨fun _ _ _ => rfl, fun _ _ => rfl⟩
theorem gfr_trans {F : Nat → Nat → Prop} {R : Nat → Prop} {s s' s2 : im_S} (h : gfr F R s s') (h2 : gfr F R s' s2) : gfr F R s s2 := ⟨fun c f z => (h2.1 c f z).trans (h.1 c f z), fun c z => (h2.2 c z).trans (h.2 c z)⟩
theorem gfr_mono {F G : Nat → Nat → Prop} {R T : Nat → Prop} {s s' : im_S} (h : gfr F R s s') (hF : ∀ c f, F c f → G c f) (hR : ∀ c, R c → T c) : gfr G T s s' := ⟨fun c f z => h.1 c f (fun q => z (hF c f q)), fun c z => h.2 c (fun q => z (hR c q))⟩
theorem gfr_pf {F : Nat → Nat → Prop} {R : Nat → Prop} {s s' : im_S} {a f : Nat} {x : Int} (h : gfr F R s s') (hf : F a f) : gfr F R s (cpf s' a f x) := ⟨fun c g z => by
  rw [cpf_ne (fun e => z (by rw [e.1, e.2]; exact hf))]
  exact h.1 c g z, h.2⟩
theorem gfr_pa {F : Nat → Nat → Prop} {R : Nat → Prop} {s s' : im_S} {a : Nat} {i x : Int} (h : gfr F R s s') (hr : R a) : gfr F R s (cpa s' a i x) := ⟨h.1, fun c z => by
  rw [cpa_ne (fun e => z (by rw [e]; exact hr))]
  exact h.2 c z⟩
theorem gfr_b {F : Nat → Nat → Prop} {R : Nat → Prop} {s s' s2 : im_S} {a : Nat} (h : gfr F R s s') (hb : bfr a s' s2) (h1 : F a 1) (h2 : F a 2) (hr : R (a + 1)) : gfr F R s s2 := ⟨fun c f z => by
  rw [hb.1 c f (fun e => z (by
    rcases e.2 with q | q
    · rw [e.1, q]; exact h1
    · rw [e.1, q]; exact h2))]
  exact h.1 c f z, fun c z => by
  rw [hb.2 c (fun e => z (by rw [e]; exact hr))]
  exact h.2 c z⟩
/-- d is the degree of F -/
def dgo (d : Int) (F : List Int) : Prop := -1 ≤ d ∧ d ≤ 8 ∧ pdb F (d + 1).toNat ∧ (0 ≤ d → pgt F d.toNat ≠ 0)
/-- row c holds F -/
def rwl (s : im_S) (c : Nat) (F : List Int) : Prop := ∀ i : Nat, i < 9 → s.2 c i = pgt F i
def ply (s : im_S) (a : Nat) (F : List Int) : Prop := rwl s (a + 1) F ∧ dgo (s.1 a 0) F
/-- only the polynomial a has changed -/
def pyf (a : Nat) (s s' : im_S) : Prop := gfr (fun c f => c = a ∧ f = 0) (fun c => c = a + 1) s s'
theorem pyf_refl (a : Nat) (s : im_S) : pyf a s s := gfr_refl _ _ _
theorem pyf_trans {a : Nat} {s s' s2 : im_S} (h : pyf a s s') (h2 : pyf a s' s2) : pyf a s s2 := gfr_trans h h2
theorem gfr_p {F : Nat → Nat → Prop} {R : Nat → Prop} {s s' s2 : im_S} {a : Nat} (h : gfr F R s s') (hb : pyf a s' s2) (h1 : F a 0) (hr : R (a + 1)) : gfr F R s s2 := gfr_trans h (gfr_mono hb (fun c f e => by rw [e.1, e.2]; exact h1) (fun c e => by rw [e]; exact hr))
theorem rwl_co {s s' : im_S} {c : Nat} {F : List Int} (h : rwl s c F) (e : s'.2 c = s.2 c) : rwl s' c F := fun i hi => by rw [e]; exact h i hi
theorem ply_co {s s' : im_S} {a : Nat} {F : List Int} (h : ply s a F) (e : s'.2 (a + 1) = s.2 (a + 1)) (e2 : s'.1 a 0 = s.1 a 0) : ply s' a F := ⟨rwl_co h.1 e, by rw [e2]; exact h.2⟩
theorem ply_fr {F : Nat → Nat → Prop} {R : Nat → Prop} {s s' : im_S} {a : Nat} {P : List Int} (h : ply s a P) (f : gfr F R s s') (h1 : ¬ F a 0) (h2 : ¬ R (a + 1)) : ply s' a P := ply_co h (f.2 _ h2) (f.1 _ _ h1)
theorem ply_9 {s : im_S} {a : Nat} {F : List Int} (h : ply s a F) : pdb F 9 := pdb_mono h.2.2.2.1 (by have := h.2.2.1; omega)
theorem dgo_u {d d' : Int} {F : List Int} (h : dgo d F) (h' : dgo d' F) : d = d' := by
  obtain ⟨a1, a2, a3, a4⟩ := h
  obtain ⟨b1, b2, b3, b4⟩ := h'
  rcases Int.lt_trichotomy d d' with c | c | c
  · exact absurd (a3 d'.toNat (by omega)) (b4 (by omega))
  · exact c
  · exact absurd (b3 d.toNat (by omega)) (a4 (by omega))
theorem ply_u {s : im_S} {a : Nat} {F G : List Int} (h : ply s a F) (h' : ply s a G) (k : Nat) : pgt F k = pgt G k := by
  by_cases c : k < 9
  · rw [← h.1 k c, h'.1 k c]
  · rw [ply_9 h k (by omega), ply_9 h' k (by omega)]
theorem dgo_co {d : Int} {F G : List Int} (h : dgo d F) (e : ∀ k, pgt F k = pgt G k) : dgo d G := ⟨h.1, h.2.1, fun k hk => by rw [← e]; exact h.2.2.1 k hk, fun z => by rw [← e]; exact h.2.2.2 z⟩
theorem ply_eq {s : im_S} {a : Nat} {F G : List Int} (h : ply s a F) (e : ∀ k, pgt F k = pgt G k) : ply s a G := ⟨fun i hi => by rw [h.1 i hi, e], dgo_co h.2 e⟩
theorem w32s {i : Nat} (h : i ≤ 1000) : w32 ((i : Int) + 1) = ((i + 1 : Nat) : Int) := by rw [w32_id (by omega) (by omega)]; omega
theorem setConstant_b {a : Nat} {s : im_S} {v : Int} {Q : im_S → Prop} (hQ : ∀ s', ply s' a [v] → pyf a s s' → Q s') : C_setConstant6 a v s Q := by
  refine ⟨fun q => ∃ i : Nat, q.1 = (i : Int) ∧ 1 ≤ i ∧ i ≤ 9 ∧ pyf a s q.2 ∧ ∀ k : Nat, 1 ≤ k → k < i → q.2.2 (a + 1) k = 0, ⟨1, rfl, by omega, by omega, pyf_refl _ _, fun k h1 h2 => by omega⟩, ?_⟩
  rintro ⟨x, s1⟩ ⟨i, e, i1, i9, f, hz⟩
  dsimp only at e f hz ⊢
  subst e
  refine ⟨fun c _ s2 e2 u eu s3 e3 => ?_, fun c _ s2 e2 => ?_⟩
  · subst e2
    subst e3
    refine hQ _ ⟨fun k hk => ?_, ?_⟩ (gfr_pf (gfr_pa f rfl) ⟨rfl, rfl⟩)
    · show (cpa s1 (a + 1) 0 v).2 (a + 1) k = _
      rw [cpa_row]
      cases k with
      | zero => rfl
      | succ k =>
        rw [if_neg (by simp), hz (k + 1) (by omega) (by omega)]
        rfl
    · rw [cpf_same, eu]
      split
      · rename_i h0
        refine ⟨by omega, by omega, fun k _ => ?_, fun z => by omega⟩
        cases k with
        | zero => exact h0
        | succ k => rfl
      · rename_i h0
        refine ⟨by omega, by omega, fun k hk => ?_, fun z => h0⟩
        cases k with
        | zero => exact absurd hk (by decide)
        | succ k => rfl
  · subst e2
    refine ⟨i + 1, w32s (by omega), by omega, by omega, gfr_pa f rfl, fun k k1 k2 => ?_⟩
    rw [cpa_row]
    by_cases ck : k = i
    · rw [if_pos (by omega)]
    · rw [if_neg (by omega)]; exact hz k k1 (by omega)
theorem setLinear_b {a : Nat} {s : im_S} {u v : Int} {Q : im_S → Prop} (hQ : ∀ s', ply s' a [v, u] → pyf a s s' → Q s') : C_setLinear6 a u v s Q := by
  refine setConstant_b (fun s1 h1 f1 _ s2 e2 z ez s3 e3 => ?_)
  subst e2
  subst e3
  refine hQ _ ⟨fun k hk => ?_, ?_⟩ (gfr_pf (gfr_pa f1 rfl) ⟨rfl, rfl⟩)
  · show (cpa s1 (a + 1) 1 u).2 (a + 1) k = _
    rw [cpa_row]
    have := h1.1 k hk
    match k with
    | 0 => rw [if_neg (by decide), this]; rfl
    | 1 => rfl
    | k + 2 => rw [if_neg (by simp), this]; rfl
  · rw [cpf_same, ez]
    have d := h1.2
    split
    · rename_i h0
      subst h0
      refine dgo_co d (fun k => ?_)
      match k with
      | 0 => rfl
      | 1 => rfl
      | k + 2 => rfl
    · rename_i h0
      refine ⟨by omega, by omega, fun k hk => ?_, fun _ => h0⟩
      match k with
      | 0 => exact absurd hk (by decide)
      | 1 => exact absurd hk (by decide)
      | k + 2 => rfl
theorem copy6_b {a b : Nat} {s : im_S} {F : List Int} {Q : im_S → Prop} (hb : ply s b F) (hab : b ≠ a) (hQ : ∀ s', ply s' a F → pyf a s s' → Q s') : C_copy6 a b s Q := by
  refine ⟨fun q => ∃ i : Nat, q.1 = (i : Int) ∧ i ≤ 9 ∧ pyf a s q.2 ∧ ∀ k : Nat, k < i → q.2.2 (a + 1) k = pgt F k, ⟨0, rfl, by omega, pyf_refl _ _, fun k h2 => by omega⟩, ?_⟩
  rintro ⟨x, s1⟩ ⟨i, e, i9, f, hz⟩
  dsimp only at e f hz ⊢
  subst e
  have hb1 := ply_fr hb f (fun z => hab z.1) (by omega)
  refine ⟨fun c s2 e2 => ?_, fun c _ _ s2 e2 => ?_⟩
  · subst e2
    refine hQ _ ⟨fun k hk => ?_, ?_⟩ (gfr_pf f ⟨rfl, rfl⟩)
    · exact hz k (by omega)
    · rw [cpf_same]; exact hb1.2
  · subst e2
    refine ⟨i + 1, w32s (by omega), by omega, gfr_pa f rfl, fun k k2 => ?_⟩
    rw [cpa_row]
    by_cases ck : k = i
    · rw [if_pos (by omega), ck]
      show s1.2 (b + 1) ((i : Nat) : Int).toNat = _
      rw [Int.toNat_natCast]
      exact hb1.1 i (by omega)
    · rw [if_neg (by omega)]; exact hz k (by omega)
theorem measure_b {a : Nat} {s : im_S} {F : List Int} {Q : im_S → Prop} (hr : rwl s (a + 1) F) (h9 : pdb F 9) (hQ : ∀ s', ply s' a F → pyf a s s' → s'.2 = s.2 → Q s') : C_measure6 a s Q := by
  intro s7 e7
  refine ⟨fun q => ∃ i : Nat, q.1 = (i : Int) ∧ i ≤ 9 ∧ pyf a s q.2 ∧ q.2.2 = s.2 ∧ -1 ≤ q.2.1 a 0 ∧ q.2.1 a 0 < i ∧ (0 ≤ q.2.1 a 0 → pgt F (q.2.1 a 0).toNat ≠ 0) ∧ ∀ k : Nat, (q.2.1 a 0 < k) → k < i → pgt F k = 0, ⟨0, rfl, by omega, ?_, ?_, ?_, ?_, ?_, fun k _ h => by omega⟩, ?_⟩
  · subst e7; exact gfr_pf (pyf_refl _ _) ⟨rfl, rfl⟩
  · subst e7; rfl
  · subst e7; rw [cpf_same]; omega
  · subst e7; rw [cpf_same]; omega
  · subst e7; rw [cpf_same]; intro h; omega
  rintro ⟨x, s1⟩ ⟨i, e, i9, f, er, d1, d2, d3, d4⟩
  dsimp only at e f er d1 d2 d3 d4 ⊢
  subst e
  have val : cga s1 (a + 1) (i : Int) = s.2 (a + 1) i := by
    show s1.2 (a + 1) ((i : Nat) : Int).toNat = _
    rw [Int.toNat_natCast, er]
  refine ⟨fun c => ?_, fun c _ => ⟨fun z => ?_, fun z s2 e2 => ?_⟩⟩
  · have i9' : i = 9 := by omega
    subst i9'
    refine hQ _ ⟨rwl_co hr (by rw [er]), d1, by omega, fun k hk => ?_, d3⟩ f er
    by_cases ck : k < 9
    · exact d4 k (by omega) ck
    · exact h9 k (by omega)
  · rw [val, hr i (by omega)] at z
    refine ⟨i + 1, w32s (by omega), by omega, f, er, d1, (by show s1.1 a 0 < _; omega), d3, fun k k1 k2 => ?_⟩
    by_cases ck : k = i
    · rw [ck]; exact z
    · exact d4 k k1 (by omega)
  · rw [val, hr i (by omega)] at z
    subst e2
    refine ⟨i + 1, w32s (by omega), by omega, gfr_pf f ⟨rfl, rfl⟩, er, ?_, ?_, ?_, fun k k1 k2 => ?_⟩
    · rw [cpf_same]; omega
    · rw [cpf_same]; omega
    · rw [cpf_same]; intro _; rw [Int.toNat_natCast]; exact z
    · rw [cpf_same] at k1; omega
/-- the factor of the highest power -/
def ldc (d : Int) (F : List Int) : Int := if 0 ≤ d then pgt F d.toNat else 0
theorem lead6_b {a : Nat} {s : im_S} {F : List Int} {Q : Int → im_S → Prop} (h : ply s a F) (hQ : Q (ldc (s.1 a 0) F) s) : C_lead6 a s Q := by
  intro v e
  have : v = ldc (s.1 a 0) F := by
    rw [e]
    unfold ldc
    have d8 := h.2.2.1
    by_cases c : 0 ≤ s.1 a 0
    · rw [if_pos (show 0 ≤ cgf s a 0 from c), if_pos c]
      exact h.1 (s.1 a 0).toNat (by omega)
    · rw [if_neg (show ¬ 0 ≤ cgf s a 0 from c), if_neg c]
  rw [this]; exact hQ
theorem setSlope_b {a b : Nat} {s : im_S} {F : List Int} {Q : im_S → Prop} (hb : ply s b F) (hab : b ≠ a) (hQ : ∀ s' G, ply s' a G → pyf a s s' → Q s') : C_setSlopeOf6 a b s Q := by
  refine ⟨fun q => pyf a s q.2, pyf_refl _ _, ?_⟩
  rintro ⟨x, s1⟩ f
  dsimp only at f ⊢
  refine ⟨fun c _ s2 e2 => ?_, fun c _ _ s2 e2 => ?_⟩
  · refine measure_b (F := pmk 9 (s2.2 (a + 1))) (fun i hi => ?_) ?_ (fun s3 h3 f3 _ => hQ _ _ h3 (pyf_trans (by subst e2; exact gfr_pa f rfl) f3))
    · rw [pmk_gt, if_pos hi]
    · have := pdb_len (pmk 9 (s2.2 (a + 1)))
      rw [pmk_len] at this; exact this
  · subst e2
    exact gfr_pa f rfl
theorem degreeOf_b {c : Nat} {s : im_S} {F : List Int} {Q : Int → im_S → Prop} (hr : rwl s c F) (hg : gln c = 9) (hQ : ∀ z : Int, (z < 0 ↔ ∀ i, i < 9 → pgt F i = 0) → Q z s) : C_degreeOf2 c s Q := by
  refine ⟨fun q => q.2 = s ∧ -1 ≤ q.1 ∧ q.1 ≤ 8 ∧ ∀ k : Nat, q.1 < k → k < 9 → pgt F k = 0, ⟨rfl, ?_, ?_, fun k h1 h2 => ?_⟩, ?_⟩
  · dsimp only; rw [hg, w32_id (by omega) (by omega)]; omega
  · dsimp only; rw [hg, w32_id (by omega) (by omega)]; omega
  · dsimp only at h1; rw [hg, w32_id (by omega) (by omega)] at h1; omega
  rintro ⟨x, s1⟩ ⟨e, h1, h2, h3⟩
  dsimp only at e h1 h2 h3 ⊢
  subst e
  have val : 0 ≤ x → cga s1 c x = pgt F x.toNat := fun h0 => hr x.toNat (by omega)
  refine ⟨fun q => hQ x ⟨fun _ i hi => h3 i (by omega) hi, fun _ => q⟩, fun q _ => ⟨fun z => hQ x ⟨fun u => absurd u q, fun u => ?_⟩, fun z => ⟨rfl, ?_, ?_, fun k k1 k2 => ?_⟩⟩⟩
  · exact absurd (by rw [val (by omega)]; exact u x.toNat (by omega)) z
  · dsimp only; rw [w32_id (by omega) (by omega)]; omega
  · dsimp only; rw [w32_id (by omega) (by omega)]; omega
  · dsimp only at k1
    rw [w32_id (by omega) (by omega)] at k1
    by_cases ck : (k : Int) = x
    · rw [val (by omega)] at z
      rw [show k = x.toNat by omega]; exact z
    · exact h3 k (by omega) k2
theorem maxJ_J {x y : Int} {s : im_S} {Q : Int → im_S → Prop} (h : Q (max x y) s) : C_J9_max_f86c9 x y s Q := by
  intro v e
  have : v = max x y := by rw [e]; split <;> omega
  rw [this]; exact h
theorem divJ_eq {x y : Int} (hx : lR x) (hy : lR y) (h : x ≠ -9223372036854775808) : divJ x y = x.tdiv y := by
  unfold divJ j2
  have b : ∀ z : Int, lR z → (Int64.ofInt z).toInt = z := fun z hz => im_bmJ hz.1 hz.2
  rw [Int64.toInt_div, b x hx, b y hy]
  have h1 := hx.1
  have h2 := hx.2
  have : (x.tdiv y).natAbs ≤ x.natAbs := by rw [Int.natAbs_tdiv]; exact Nat.div_le_self _ _
  exact Int.bmod_eq_of_le (by omega) (by omega)
theorem remJ_eq {x y : Int} (hx : lR x) (hy : lR y) (h : x ≠ -9223372036854775808) : remJ x y = x.tmod y := by
  have b : ∀ z : Int, lR z → (Int64.ofInt z).toInt = z := fun z hz => im_bmJ hz.1 hz.2
  have h1 := hx.1
  have h2 := hx.2
  have e : remJ x y = w64 (x - divJ x y * y) := by
    unfold remJ divJ j2 w64
    dsimp only
    rw [Int64.toInt_sub, Int64.toInt_mul, b x hx, b y hy]
    generalize (Int64.ofInt x / Int64.ofInt y).toInt = D
    have sz : (Int64.size : Nat) = 2 ^ 64 := rfl
    rw [Int64.toInt_ofInt, sz]
    simp
  rw [e, divJ_eq hx hy h]
  have m : x - x.tdiv y * y = x.tmod y := by
    have := Int.mul_tdiv_add_tmod x y
    rw [Int.mul_comm] at this; omega
  rw [m]
  have : (x.tmod y).natAbs ≤ x.natAbs := by rw [Int.natAbs_tmod]; exact Nat.mod_le _ _
  exact w64_id (by omega) (by omega)
