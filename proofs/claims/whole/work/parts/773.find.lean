/-! find: A COMMON DIVISOR, proved by division -/
def dI (s : im_S) : Prop := (s.1 247 3 = 251 ∨ s.1 247 3 = 252) ∧ (s.1 247 4 = 251 ∨ s.1 247 4 = 252)
theorem dI_3 {s : im_S} (h : dI s) : crf s 247 3 = 251 ∨ crf s 247 3 = 252 := by
  unfold crf
  have := h.1
  omega
theorem dI_4 {s : im_S} (h : dI s) : crf s 247 4 = 251 ∨ crf s 247 4 = 252 := by
  unfold crf
  have := h.2
  omega
theorem dI_co {F : Nat → Nat → Prop} {R : Nat → Prop} {s s' : im_S} (h : dI s) (f : gfr F R s s') (h3 : ¬ F 247 3) (h4 : ¬ F 247 4) : dI s' := by
  unfold dI
  rw [f.1 _ _ h3, f.1 _ _ h4]
  exact h
/-- what imageModulo changes -/
def imf (s s' : im_S) : Prop := gfr (fun _ _ => False) (fun c => c = 248 ∨ c = 249 ∨ c = 251 ∨ c = 252) s s'
theorem floorMod_f {x y : Int} {s : im_S} {Q : Int → im_S → Prop} (h : ∀ z, Q z s) : C_J9_floorMod_f86c9 x y s Q := by
  unfold C_J9_floorMod_f86c9
  refine ⟨fun _ => h _, fun _ => ?_⟩
  first
    | exact h _
    | exact ⟨fun _ => h _, fun _ => h _⟩
theorem inverse_f {x y : Int} {s : im_S} {Q : Int → im_S → Prop} (h : ∀ z, Q z s) : C_inverse2 x y s Q := by
  refine ⟨fun q => q.2.2.2 = s, rfl, ?_⟩
  rintro ⟨a, b, c, s1⟩ e
  dsimp only at e ⊢
  subst e
  exact ⟨fun _ => h _, fun _ _ _ => rfl⟩
theorem eliminate_f {a b : Nat} {t l p : Int} {s : im_S} {Q : im_S → Prop} (ha : a = 248 ∨ a = 249) (h : ∀ s', imf s s' → Q s') : C_eliminate2 a t b l p s Q := by
  intro _
  refine ⟨fun q => imf s q.2, gfr_refl _ _ _, ?_⟩
  rintro ⟨i, s1⟩ f1
  dsimp only at f1 ⊢
  refine ⟨fun _ => h _ f1, fun _ _ => ⟨fun q => imf s q.2, f1, ?_⟩⟩
  rintro ⟨j, s2⟩ f2
  dsimp only at f2 ⊢
  refine ⟨fun _ => f2, fun _ => ⟨fun _ => f2, fun _ _ v _ => floorMod_f (fun z _ s3 e3 => ?_)⟩⟩
  subst e3
  exact gfr_pa f2 (by omega)
theorem degreeOf_f {c : Nat} {s : im_S} {Q : Int → im_S → Prop} (h : ∀ z, Q z s) : C_degreeOf2 c s Q := by
  refine ⟨fun q => q.2 = s, rfl, ?_⟩
  rintro ⟨a, s1⟩ e
  dsimp only at e ⊢
  subst e
  exact ⟨fun _ => h _, fun _ _ => ⟨fun _ => h _, fun _ => rfl⟩⟩
theorem imageModulo_f {a b : Nat} {p : Int} {s : im_S} {Q : Int → im_S → Prop} (hd : dI s) (h : ∀ z s', imf s s' → Q z s') : C_imageModulo2 a b p s Q := by
  refine ⟨fun q => imf s q.2, gfr_refl _ _ _, ?_⟩
  rintro ⟨i, s1⟩ f1
  dsimp only at f1 ⊢
  refine ⟨fun _ => ?_, fun _ _ => floorMod_f (fun z _ s2 e2 _ => floorMod_f (fun z3 _ s4 e4 => ?_))⟩
  · refine ⟨fun q => (q.1 = 248 ∨ q.1 = 249) ∧ (q.2.1 = 248 ∨ q.2.1 = 249) ∧ imf s q.2.2.2.2.2, ⟨Or.inl rfl, Or.inr rfl, f1⟩, ?_⟩
    rintro ⟨u, v, x, y, t, s2⟩ ⟨hu, hv, f2⟩
    dsimp only at hu hv f2 ⊢
    have fin : C_imageModulo2_128 p u x y s2 Q := by
      refine ⟨fun _ => h _ _ f2, fun _ => ⟨fun _ _ => inverse_f (fun z => ?_), fun _ => h _ _ f2⟩⟩
      refine ⟨fun q => imf s q.2, f2, ?_⟩
      rintro ⟨k, s3⟩ f3
      dsimp only at f3 ⊢
      have d3 := dI_3 (dI_co hd f3 (fun z => z) (fun z => z))
      refine ⟨fun _ => h _ _ f3, fun _ _ _ s4 e4 => ?_⟩
      subst e4
      exact gfr_pa f3 (by omega)
    refine ⟨fun _ => fin, fun _ => ⟨fun _ => fin, fun _ => eliminate_f hu (fun s3 f3 => degreeOf_f (fun z => ⟨hv, hu, gfr_trans f2 f3⟩))⟩⟩
  · subst e2
    subst e4
    exact gfr_pa (gfr_pa f1 (by omega)) (by omega)
theorem remJ_lt (x : Int) {y : Int} (hx : lR x) (hy : 2 ≤ y) (hy2 : y ≤ 9223372036854775807) : (remJ x y).natAbs < y.natAbs := by
  have b : ∀ z : Int, lR z → (Int64.ofInt z).toInt = z := fun z hz => im_bmJ hz.1 hz.2
  have h1 := hx.1
  have h2 := hx.2
  have hy' : lR y := ⟨by omega, hy2⟩
  have ed : divJ x y = x.tdiv y := by
    unfold divJ j2
    rw [Int64.toInt_div, b x hx, b y hy']
    have : (x.tdiv y).natAbs * 2 ≤ x.natAbs := by
      rw [Int.natAbs_tdiv]
      have h2 : 2 ≤ y.natAbs := by omega
      have a : x.natAbs / y.natAbs * y.natAbs ≤ x.natAbs := Nat.div_mul_le_self _ _
      have c : x.natAbs / y.natAbs * 2 ≤ x.natAbs / y.natAbs * y.natAbs := Nat.mul_le_mul_left _ h2
      exact Nat.le_trans c a
    exact Int.bmod_eq_of_le (by omega) (by omega)
  have e : remJ x y = w64 (x - divJ x y * y) := by
    unfold remJ divJ j2 w64
    dsimp only
    rw [Int64.toInt_sub, Int64.toInt_mul, b x hx, b y hy']
    generalize (Int64.ofInt x / Int64.ofInt y).toInt = D
    have sz : (Int64.size : Nat) = 2 ^ 64 := rfl
    rw [Int64.toInt_ofInt, sz]
    simp
  rw [e, ed]
  have m : x - x.tdiv y * y = x.tmod y := by
    have := Int.mul_tdiv_add_tmod x y
    rw [Int.mul_comm] at this; omega
  rw [m]
  have lt : (x.tmod y).natAbs < y.natAbs := by rw [Int.natAbs_tmod]; exact Nat.mod_lt _ (by omega)
  rw [w64_id (by omega) (by omega)]
  exact lt
def gsf (s s' : im_S) : Prop := gfr (fun c f => c = 253 ∧ f = 0) (fun c => c = 254) s s'
theorem rebuild_b {u d p q : Int} {s : im_S} {Q : im_S → Prop} (hp : prz p) (hq : prz q) (hQ : ∀ s' G, ply s' 253 G → w63 G → gsf s s' → Q s') : C_rebuild2 u d p q s Q := by
  obtain ⟨p1, p2⟩ := hp
  obtain ⟨q1, q2⟩ := hq
  refine inverse_f (fun z => setConstant_b (fun s1 h1 f1 => ?_))
  refine ⟨fun a => gsf s a.2 ∧ (∀ k, k < 9 → -9223372036854775807 ≤ a.2.2 254 k ∧ a.2.2 254 k ≤ 9223372036854775807), ⟨f1, fun k hk => ?_⟩, ?_⟩
  · dsimp only
    have := h1.1 k hk
    rw [this]
    cases k with
    | zero => exact ⟨by decide, by decide⟩
    | succ k => exact ⟨by show _ ≤ (0 : Int); decide, by show (0 : Int) ≤ _; decide⟩
  rintro ⟨i, s2⟩ ⟨f2, h2⟩
  dsimp only at f2 h2 ⊢
  refine ⟨fun _ => ?_, fun _ _ _ => floorMod_f (fun z9 v ev _ s3 e3 => ?_)⟩
  · have w0 : w63 (pmk 9 (s2.2 254)) := fun k => by
      rw [pmk_gt]
      by_cases c : k < 9
      · rw [if_pos c]; exact h2 k c
      · rw [if_neg c]; exact ⟨by decide, by decide⟩
    refine measure_b (F := pmk 9 (s2.2 254)) (fun i hi => by rw [pmk_gt, if_pos hi]) (by have := pdb_len (pmk 9 (s2.2 254)); rw [pmk_len] at this; exact this) (fun s4 h4 f4 e4 => ?_)
    refine makePrimitive_b h4 w0 (fun s5 G g h5 g0 eg f5 => hQ s5 G h5 (fun k => ?_) (gfr_trans f2 (gfr_trans f4 f5)))
    have a := w0 k
    have b := eg k
    rw [b] at a
    have : (pgt G k).natAbs ≤ (g * pgt G k).natAbs := by
      rw [Int.natAbs_mul]
      exact Nat.le_mul_of_pos_left _ (by omega)
    omega
  · subst e3
    have A := remJ_lt (w64 (remJ u p * cga s2 (crf s2 247 4) i)) (w64_r _) (show 2 ≤ p by omega) (by omega)
    have B := remJ_lt (w64 (z9 * z)) (w64_r _) (show 2 ≤ q by omega) (by omega)
    generalize remJ (w64 (remJ u p * cga s2 (crf s2 247 4) i)) p = a at A ev
    generalize remJ (w64 (z9 * z)) q = b at B ev
    have pb : (p * b).natAbs ≤ 2147483647 * 2147483647 := by
      rw [Int.natAbs_mul]
      exact Nat.mul_le_mul (by omega) (by omega)
    have pq1 : p * q ≤ 2147483647 * q := Int.mul_le_mul_of_nonneg_right p2 (by omega)
    have pq0 : 0 ≤ p * q := Int.mul_nonneg (by omega) (by omega)
    rw [w64_id (x := p * b) (by omega) (by omega), w64_id (x := p * q) (by omega) (by omega), w64_id (x := a + p * b) (by omega) (by omega)] at ev
    have dv : divJ (p * q) 2 = (p * q).tdiv 2 := divJ_eq ⟨by omega, by omega⟩ ⟨by decide, by decide⟩ (by omega)
    rw [dv, Int.tdiv_eq_ediv_of_nonneg pq0] at ev
    have vb : -9223372036854775807 ≤ v ∧ v ≤ 9223372036854775807 := by
      rw [ev]
      split
      · omega
      · rw [w64_id (by omega) (by omega)]; omega
    refine ⟨gfr_pa f2 rfl, fun k hk => ?_⟩
    dsimp only
    rw [cpa_row]
    split
    · exact vb
    · exact h2 k hk
/-- what find changes -/
def fdf (s s' : im_S) : Prop := gfr (fun c f => (c = 253 ∧ f = 0) ∨ (c = 255 ∧ f = 0) ∨ (c = 257 ∧ f = 0) ∨ (c = 247 ∧ (f = 3 ∨ f = 4))) (fun c => c = 248 ∨ c = 249 ∨ c = 250 ∨ c = 251 ∨ c = 252 ∨ c = 254 ∨ c = 256 ∨ c = 258) s s'
/-- F's factors are at most 2 ^ 58 -/
def b58 (F : List Int) : Prop := ∀ k, ((pgt F k).natAbs : Int) ≤ 288230376151711744
/-- a polynomial of the class outside the divider -/
def opc (a : Nat) : Prop := a < 247 ∨ 258 < a
theorem dvs_one {F : List Int} (h : b58 F) : dvs F [1] := by
  refine ⟨F, fun x => by rw [pev_c1]; grind, fun j => ?_⟩
  have : widn [1] 9 = 1 := by decide
  rw [this, Int.mul_one]
  exact h j
theorem find_b {f h : Nat} {s : im_S} {F H : List Int} {Q : im_S → Prop} (hd : dI s) (hF : ply s f F) (hH : ply s h H) (of : opc f) (oh : opc h) (bF : b58 F) (bH : b58 H) (hQ : ∀ s' D, ply s' 255 D → w63 D → (∃ k, pgt D k ≠ 0) → dvs F D → dvs H D → dI s' → fdf s s' → Q s') : C_find2 f h s Q := by
  unfold opc at of oh
  refine setConstant_b (fun s1 h1 f1 => ?_)
  have fr1 : fdf s s1 := gfr_mono f1 (fun c k e => by omega) (fun c e => by omega)
  have done : ∀ s', ply s' 255 [1] → dI s' → fdf s s' → Q s' := fun s' h' d' f' => hQ s' [1] h' (fun k => by
    match k with
    | 0 => exact ⟨by decide, by decide⟩
    | k + 1 => exact ⟨by show _ ≤ (0 : Int); decide, by show (0 : Int) ≤ _; decide⟩) ⟨0, by decide⟩ (dvs_one bF) (dvs_one bH) d' f'
  have d1 : dI s1 := dI_co hd f1 (by omega) (by omega)
  refine ⟨fun _ => done s1 h1 d1 fr1, fun _ => ⟨fun _ => ?_, fun _ => done s1 h1 d1 fr1⟩⟩
  refine ⟨fun a => ply a.2.2 255 [1] ∧ dI a.2.2 ∧ fdf s a.2.2, ⟨h1, d1, fr1⟩, ?_⟩
  rintro ⟨b, t, s2⟩ ⟨h2, d2, fr2⟩
  dsimp only at h2 d2 fr2 ⊢
  refine ⟨fun _ => done s2 h2 d2 fr2, fun _ z5 _ => imageModulo_f d2 (fun z7 s6 f6 => ?_)⟩
  have fr6 : fdf s s6 := gfr_trans fr2 (gfr_mono f6 (fun c k e => e.elim) (fun c e => by omega))
  have d6 : dI s6 := dI_co d2 f6 (fun z => z) (fun z => z)
  have h6 : ply s6 255 [1] := ply_fr h2 f6 (fun z => z) (by omega)
  have next : ∀ (s' : im_S) (x y : Int), ply s' 255 [1] → dI s' → fdf s s' → C_find2_140 (fun a => ply a.2.2 255 [1] ∧ dI a.2.2 ∧ fdf s a.2.2) f h x y s' Q := by
    intro s' x y h' d' f' s8 e8 s9 e9
    subst e8
    subst e9
    refine ⟨?_, ?_, ?_⟩
    · exact ply_co h' rfl (by rw [cpf_ne (by omega), cpf_ne (by omega)])
    · have a3 := dI_3 d'
      have a4 := dI_4 d'
      refine ⟨?_, ?_⟩
      · rw [cpf_ne (by omega), cpf_same]; omega
      · rw [cpf_same]; omega
    · exact gfr_pf (gfr_pf f' (by omega)) (by omega)
  have hF6 : ply s6 f F := ply_fr hF fr6 (by omega) (by omega)
  have hH6 : ply s6 h H := ply_fr hH fr6 (by omega) (by omega)
  refine ⟨fun _ => ⟨fun _ => next s6 _ _ h6 d6 fr6, fun _ => ⟨fun _ => next s6 _ _ h6 d6 fr6, fun _ => ?_⟩⟩, fun _ => done s6 h6 d6 fr6⟩
  refine lead6_b hF6 (lead6_b hH6 ?_)
  have lb : ∀ (d : Int) (P : List Int), b58 P → -9223372036854775807 ≤ ldc d P ∧ ldc d P ≤ 9223372036854775807 := fun d P hb => by
    unfold ldc
    split
    · have := hb d.toNat; omega
    · exact ⟨by decide, by decide⟩
  have l1 := lb (s6.1 f 0) F bF
  have l2 := lb (s6.1 h 0) H bH
  refine gcd_b l1.1 l1.2 l2.1 l2.2 (fun z16 _ _ _ _ _ z17 p17 z18 p18 => rebuild_b p17 p18 (fun s7 G h7 w7 f7 => ?_))
  have fr7 : fdf s s7 := gfr_trans fr6 (gfr_mono f7 (fun c k e => by omega) (fun c e => by omega))
  have hF7 : ply s7 f F := ply_fr hF fr7 (by omega) (by omega)
  have i7 : ply s7 255 [1] := ply_fr h6 f7 (by omega) (by omega)
  have d7 : dI s7 := dI_co d6 f7 (by omega) (by omega)
  refine divide_b hF7 h7 (by omega) (by omega) (by decide) (by decide) bF w7 (fun dv1 gn s8 K k8 e8 f8 => ⟨fun c => by omega, fun _ => ?_⟩) (fun _ s8 f8 => ⟨fun _ => ?_, fun c => absurd rfl c⟩)
  · have fr8 : fdf s s8 := gfr_trans fr7 (gfr_mono f8 (fun c k e => by omega) (fun c e => by omega))
    have hH8 : ply s8 h H := ply_fr hH fr8 (by omega) (by omega)
    have h8 : ply s8 253 G := ply_fr h7 f8 (by omega) (by omega)
    have i8 : ply s8 255 [1] := ply_fr i7 f8 (by omega) (by omega)
    have d8 : dI s8 := dI_co d7 f8 (by omega) (by omega)
    refine divide_b hH8 h8 (by omega) (by omega) (by decide) (by decide) bH w7 (fun dv2 _ s9 K2 k9 e9 f9 => ⟨fun c => by omega, fun _ => ?_⟩) (fun _ s9 f9 => ⟨fun _ => ?_, fun c => absurd rfl c⟩)
    · have fr9 : fdf s s9 := gfr_trans fr8 (gfr_mono f9 (fun c k e => by omega) (fun c e => by omega))
      have h9 : ply s9 253 G := ply_fr h8 f9 (by omega) (by omega)
      have d9 : dI s9 := dI_co d8 f9 (by omega) (by omega)
      refine copy6_b h9 (by decide) (fun s10 h10 f10 => ?_)
      exact hQ s10 G h10 w7 gn dv1 dv2 (dI_co d9 f10 (by omega) (by omega)) (gfr_trans fr9 (gfr_mono f10 (fun c k e => by omega) (fun c e => by omega)))
    · have fr9 : fdf s s9 := gfr_trans fr8 (gfr_mono f9 (fun c k e => by omega) (fun c e => by omega))
      exact next s9 _ _ (ply_fr i8 f9 (by omega) (by omega)) (dI_co d8 f9 (by omega) (by omega)) fr9
  · have fr8 : fdf s s8 := gfr_trans fr7 (gfr_mono f8 (fun c k e => by omega) (fun c e => by omega))
    exact next s8 _ _ (ply_fr i7 f8 (by omega) (by omega)) (dI_co d7 f8 (by omega) (by omega)) fr8
