/-! A SMALL VECTOR: n forms in n unknowns whose sizes multiply to less than 1 are all below 1 at some whole numbers that are not all 0 -/
theorem rle_eq {a b : Rat} (h : a = b) : a ≤ b := by rw [h]; exact Rat.le_refl
def smq : Nat → (Nat → Rat) → Rat
  | 0, _ => 0
  | n + 1, f => smq n f + f n
theorem smq_co : ∀ {n : Nat} {f g : Nat → Rat}, (∀ k, k < n → f k = g k) → smq n f = smq n g
  | 0, _, _, _ => rfl
  | n + 1, f, g, h => by
    show smq n f + f n = smq n g + g n
    rw [smq_co (n := n) (f := f) (g := g) (fun k hk => h k (by omega)), h n (by omega)]
theorem smq_sub : ∀ (n : Nat) (f g : Nat → Rat), smq n (fun k => f k - g k) = smq n f - smq n g
  | 0, _, _ => by show (0 : Rat) = 0 - 0; grind
  | n + 1, f, g => by
    show smq n (fun k => f k - g k) + (f n - g n) = smq n f + f n - (smq n g + g n)
    rw [smq_sub n]; grind
theorem smq_add : ∀ (n : Nat) (f g : Nat → Rat), smq n (fun k => f k + g k) = smq n f + smq n g
  | 0, _, _ => by show (0 : Rat) = 0 + 0; grind
  | n + 1, f, g => by
    show smq n (fun k => f k + g k) + (f n + g n) = smq n f + f n + (smq n g + g n)
    rw [smq_add n]; grind
theorem smq_sc (c : Rat) : ∀ (n : Nat) (f : Nat → Rat), smq n (fun k => c * f k) = c * smq n f
  | 0, _ => by show (0 : Rat) = c * 0; grind
  | n + 1, f => by
    show smq n (fun k => c * f k) + c * f n = c * (smq n f + f n)
    rw [smq_sc c n]; grind
theorem smq_le : ∀ {n : Nat} {f g : Nat → Rat}, (∀ k, k < n → f k ≤ g k) → smq n f ≤ smq n g
  | 0, _, _, _ => Rat.le_refl
  | n + 1, f, g, h => by
    have a := smq_le (n := n) (f := f) (g := g) (fun k hk => h k (by omega))
    have b := h n (by omega)
    show smq n f + f n ≤ smq n g + g n
    grind
theorem smq_nn : ∀ {n : Nat} {f : Nat → Rat}, (∀ k, k < n → 0 ≤ f k) → 0 ≤ smq n f
  | 0, _, _ => Rat.le_refl
  | n + 1, f, h => by
    have a := smq_nn (n := n) (f := f) (fun k hk => h k (by omega))
    have b := h n (by omega)
    show 0 ≤ smq n f + f n
    grind
theorem smq_cst (c : Rat) : ∀ n : Nat, smq n (fun _ => c) = (n : Rat) * c
  | 0 => by show (0 : Rat) = ((0 : Nat) : Rat) * c; rw [show ((0 : Nat) : Rat) = 0 from rfl]; grind
  | n + 1 => by
    show smq n (fun _ => c) + c = ((n + 1 : Nat) : Rat) * c
    rw [smq_cst c n, rat_s]; grind
theorem smq_two (f : Nat → Rat) (m : Nat) : ∀ k : Nat, smq (m + k) f = smq m f + smq k (fun i => f (m + i))
  | 0 => by show smq m f = smq m f + 0; grind
  | k + 1 => by
    show smq (m + k) f + f (m + k) = smq m f + (smq k (fun i => f (m + i)) + f (m + k))
    rw [smq_two f m k]; grind
theorem smq_int (f : Nat → Int) : ∀ n : Nat, smq n (fun k => ((f k : Int) : Rat)) = ((sm n f : Int) : Rat)
  | 0 => rfl
  | n + 1 => by
    show smq n (fun k => ((f k : Int) : Rat)) + ((f n : Int) : Rat) = ((sm n f + f n : Int) : Rat)
    rw [smq_int f n, Rat.intCast_add]
def prk9 : Nat → (Nat → Rat) → Rat
  | 0, _ => 1
  | n + 1, f => prk9 n f * f n
def prn : Nat → (Nat → Nat) → Nat
  | 0, _ => 1
  | n + 1, f => prn n f * f n
theorem prk9_nn : ∀ {n : Nat} {f : Nat → Rat}, (∀ k, k < n → 0 ≤ f k) → 0 ≤ prk9 n f
  | 0, _, _ => by show (0 : Rat) ≤ 1; decide
  | n + 1, f, h => Rat.mul_nonneg (prk9_nn (n := n) (f := f) (fun k hk => h k (by omega))) (h n (by omega))
theorem prn_q : ∀ {n : Nat} {f : Nat → Nat} {g : Nat → Rat}, (∀ k, k < n → (f k : Rat) ≤ g k) → (prn n f : Rat) ≤ prk9 n g
  | 0, _, _, _ => Rat.le_refl
  | n + 1, f, g, h => by
    have a := prn_q (n := n) (f := f) (g := g) (fun k hk => h k (by omega))
    have b := h n (by omega)
    show ((prn n f * f n : Nat) : Rat) ≤ prk9 n g * g n
    rw [Rat.natCast_mul]
    have m1 : (prn n f : Rat) * (f n : Rat) ≤ (prn n f : Rat) * g n := Rat.mul_le_mul_of_nonneg_left b Rat.natCast_nonneg
    have m2 : (prn n f : Rat) * g n ≤ prk9 n g * g n := Rat.mul_le_mul_of_nonneg_right a (Rat.le_trans Rat.natCast_nonneg b)
    exact Rat.le_trans m1 m2
theorem prk9_two (f : Nat → Rat) : ∀ k : Nat, prk9 (k + 2) f = f 0 * f 1 * prk9 k (fun e => f (e + 2))
  | 0 => by show 1 * f 0 * f 1 = f 0 * f 1 * 1; grind
  | k + 1 => by
    have ih := prk9_two f k
    show prk9 (k + 2) f * f (k + 2) = f 0 * f 1 * (prk9 k (fun e => f (e + 2)) * f (k + 2))
    rw [ih]; grind
theorem prk9_nat (H : Rat) (s : Nat → Nat) : ∀ k : Nat, prk9 k (fun e => H * (s e : Rat)) = H ^ k * (prn k s : Rat)
  | 0 => by
    show (1 : Rat) = H ^ 0 * ((1 : Nat) : Rat)
    rw [show ((1 : Nat) : Rat) = 1 from rfl]; grind
  | k + 1 => by
    show prk9 k (fun e => H * (s e : Rat)) * (H * (s k : Rat)) = H ^ (k + 1) * ((prn k s * s k : Nat) : Rat)
    rw [prk9_nat H s k, Rat.natCast_mul, Rat.pow_succ]; grind
/-! numbers with a base of its own at each place -/
def enm (b d : Nat → Nat) : Nat → Nat
  | 0 => 0
  | n + 1 => enm b d n + d n * prn n b
theorem enm_lt {b d : Nat → Nat} : ∀ {n : Nat}, (∀ k, k < n → d k < b k) → enm b d n < prn n b
  | 0, _ => by show 0 < 1; decide
  | n + 1, h => by
    have a := enm_lt (b := b) (d := d) (n := n) (fun k hk => h k (by omega))
    have c := h n (by omega)
    show enm b d n + d n * prn n b < prn n b * b n
    have e : prn n b * b n = b n * prn n b := Nat.mul_comm _ _
    have m : (d n + 1) * prn n b ≤ b n * prn n b := Nat.mul_le_mul_right _ c
    have s : (d n + 1) * prn n b = d n * prn n b + prn n b := Nat.succ_mul _ _
    omega
theorem enm_inj {b d d' : Nat → Nat} : ∀ {n : Nat}, (∀ k, k < n → d k < b k) → (∀ k, k < n → d' k < b k) → enm b d n = enm b d' n → ∀ k, k < n → d k = d' k
  | 0, _, _, _, k, hk => absurd hk (Nat.not_lt_zero k)
  | n + 1, h, h', e, k, hk => by
    have a := enm_lt (b := b) (d := d) (n := n) (fun k hk => h k (by omega))
    have a' := enm_lt (b := b) (d := d') (n := n) (fun k hk => h' k (by omega))
    have e1 : enm b d n + d n * prn n b = enm b d' n + d' n * prn n b := e
    have en : d n = d' n := by
      rcases Nat.lt_trichotomy (d n) (d' n) with q | q | q
      · have m : (d n + 1) * prn n b ≤ d' n * prn n b := Nat.mul_le_mul_right _ q
        have s : (d n + 1) * prn n b = d n * prn n b + prn n b := Nat.succ_mul _ _
        omega
      · exact q
      · have m : (d' n + 1) * prn n b ≤ d n * prn n b := Nat.mul_le_mul_right _ q
        have s : (d' n + 1) * prn n b = d' n * prn n b + prn n b := Nat.succ_mul _ _
        omega
    by_cases c : k = n
    · rw [c]; exact en
    · rw [en] at e1
      exact enm_inj (b := b) (d := d) (d' := d') (n := n) (fun k hk => h k (by omega)) (fun k hk => h' k (by omega)) (by omega) k (by omega)
/-! floors -/
theorem flo_0 {x : Rat} (h : 0 ≤ x) : 0 ≤ x.floor := Rat.le_floor_iff.2 (by rw [rat_i0]; exact h)
theorem flo_le {x : Rat} (h : 0 ≤ x) : ((x.floor.toNat : Nat) : Rat) ≤ x := by
  have e : ((x.floor.toNat : Nat) : Int) = x.floor := Int.toNat_of_nonneg (flo_0 h)
  have a : ((((x.floor.toNat : Nat) : Int)) : Rat) ≤ x := by rw [e]; exact Rat.floor_le x
  exact a
theorem flo_mn {x y : Rat} (h : 0 ≤ x) (hxy : x ≤ y) : x.floor.toNat ≤ y.floor.toNat := by
  have a := Rat.floor_monotone hxy
  have b := flo_0 h
  omega
theorem flo_near {x y : Rat} (hx : 0 ≤ x) (hy : 0 ≤ y) (e : x.floor.toNat = y.floor.toNat) : -1 < x - y ∧ x - y < 1 := by
  have f1 := flo_0 hx
  have f2 := flo_0 hy
  have ef : x.floor = y.floor := by omega
  have a := Rat.lt_floor_add_one x
  have b := Rat.floor_le y
  have c := Rat.lt_floor_add_one y
  have d := Rat.floor_le x
  rw [Rat.intCast_add, rat_i1] at a c
  rw [ef] at a d
  constructor <;> grind
theorem arch {C e : Rat} (hC : 0 ≤ C) (he : 0 < e) : ∃ X : Nat, 1 ≤ X ∧ C < e * (X : Rat) := by
  obtain ⟨K, h, K1, h0, hd, eb⟩ := steps (a := 0) (b := C + 1) (d := e) (by grind) he
  refine ⟨K, K1, ?_⟩
  have m : (K : Rat) * h ≤ (K : Rat) * e := Rat.mul_le_mul_of_nonneg_left hd (rat_nn K)
  grind
/-- where a form lies on a box -/
theorem form_lo (c b : Nat → Rat) (X : Nat) : ∀ n : Nat, (∀ k, k < n → rb (c k) (b k)) → ∃ L : Rat, ∀ x : Nat → Nat, (∀ k, k < n → x k ≤ X) → L ≤ smq n (fun k => c k * (x k : Rat)) ∧ smq n (fun k => c k * (x k : Rat)) ≤ L + smq n b * (X : Rat)
  | 0, _ => ⟨0, fun x _ => ⟨Rat.le_refl, by show (0 : Rat) ≤ 0 + 0 * (X : Rat); grind⟩⟩
  | n + 1, h => by
    obtain ⟨L, hL⟩ := form_lo c b X n (fun k hk => h k (by omega))
    have hb := h n (by omega)
    have X0 : (0 : Rat) ≤ (X : Rat) := rat_nn X
    by_cases q : 0 ≤ c n
    · refine ⟨L, fun x hx => ?_⟩
      have a := hL x (fun k hk => hx k (by omega))
      have m1 : 0 ≤ c n * (x n : Rat) := Rat.mul_nonneg q (rat_nn _)
      have m2 : c n * (x n : Rat) ≤ c n * (X : Rat) := Rat.mul_le_mul_of_nonneg_left (rat_le (hx n (by omega))) q
      have m3 : c n * (X : Rat) ≤ b n * (X : Rat) := Rat.mul_le_mul_of_nonneg_right hb.2 X0
      show L ≤ smq n (fun k => c k * (x k : Rat)) + c n * (x n : Rat) ∧ smq n (fun k => c k * (x k : Rat)) + c n * (x n : Rat) ≤ L + (smq n b + b n) * (X : Rat)
      obtain ⟨a1, a2⟩ := a
      generalize smq n (fun k => c k * (x k : Rat)) = S at a1 a2 ⊢
      constructor <;> grind
    · have q' : 0 ≤ - c n := by grind
      refine ⟨L - b n * (X : Rat), fun x hx => ?_⟩
      have a := hL x (fun k hk => hx k (by omega))
      have m1 : 0 ≤ (- c n) * (x n : Rat) := Rat.mul_nonneg q' (rat_nn _)
      have m2 : (- c n) * (x n : Rat) ≤ (- c n) * (X : Rat) := Rat.mul_le_mul_of_nonneg_left (rat_le (hx n (by omega))) q'
      have m3 : (- c n) * (X : Rat) ≤ b n * (X : Rat) := Rat.mul_le_mul_of_nonneg_right (by have := hb.1; grind) X0
      show L - b n * (X : Rat) ≤ smq n (fun k => c k * (x k : Rat)) + c n * (x n : Rat) ∧ smq n (fun k => c k * (x k : Rat)) + c n * (x n : Rat) ≤ L - b n * (X : Rat) + (smq n b + b n) * (X : Rat)
      obtain ⟨a1, a2⟩ := a
      generalize smq n (fun k => c k * (x k : Rat)) = S at a1 a2 ⊢
      constructor <;> grind
/-- how the number of boxes grows -/
theorem room_q (R : Nat → Rat) : ∀ n : Nat, (∀ e, e < n → 0 ≤ R e) → ∃ C : Rat, 0 ≤ C ∧ ∀ X : Rat, 1 ≤ X → prk9 n (fun e => R e * X + 1) * X ≤ (prk9 n R * X + C) * X ^ n
  | 0, _ => ⟨0, Rat.le_refl, fun X _ => by show (1 : Rat) * X ≤ (1 * X + 0) * X ^ 0; grind⟩
  | n + 1, h => by
    obtain ⟨C, C0, hC⟩ := room_q R n (fun e he => h e (by omega))
    have p0 : 0 ≤ prk9 n R := prk9_nn (fun e he => h e (by omega))
    have r0 := h n (by omega)
    have cr : 0 ≤ C * R n := Rat.mul_nonneg C0 r0
    refine ⟨prk9 n R + C * R n + C, by grind, fun X X1 => ?_⟩
    have a := hC X X1
    have X0 : 0 ≤ X := by grind
    have rx : 0 ≤ R n * X := Rat.mul_nonneg r0 X0
    have b := Rat.mul_le_mul_of_nonneg_right a (show 0 ≤ R n * X + 1 by grind)
    have Xn : 0 ≤ X ^ n := Rat.pow_nonneg X0
    have cx : C * 1 ≤ C * X := Rat.mul_le_mul_of_nonneg_left X1 C0
    show prk9 n (fun e => R e * X + 1) * (R n * X + 1) * X ≤ (prk9 n R * R n * X + (prk9 n R + C * R n + C)) * X ^ (n + 1)
    have d : (prk9 n R * X + C) * (R n * X + 1) ≤ (prk9 n R * R n * X + (prk9 n R + C * R n + C)) * X := by
      generalize prk9 n R = p
      generalize R n = r
      grind
    have d2 := Rat.mul_le_mul_of_nonneg_right d Xn
    rw [Rat.pow_succ]
    generalize prk9 n (fun e => R e * X + 1) = Y at b ⊢
    generalize X ^ n = Z at b d2 ⊢
    generalize prk9 n R = p at b d2 ⊢
    generalize R n = r at b d2 ⊢
    grind
theorem small_vec {n : Nat} (c b : Nat → Nat → Rat) (R : Nat → Rat) (hb : ∀ e k, e < n → k < n → rb (c e k) (b e k)) (hR : ∀ e, e < n → smq n (b e) ≤ R e) (hp : prk9 n R < 1) : ∃ z : Nat → Int, (∃ i, i < n ∧ z i ≠ 0) ∧ ∀ e, e < n → -1 < smq n (fun k => c e k * (z k : Rat)) ∧ smq n (fun k => c e k * (z k : Rat)) < 1 := by
  have b0 : ∀ e, e < n → 0 ≤ smq n (b e) := fun e he => smq_nn (fun k hk => rb_0 (hb e k he hk))
  have R0 : ∀ e, e < n → 0 ≤ R e := fun e he => Rat.le_trans (b0 e he) (hR e he)
  obtain ⟨C, C0, hC⟩ := room_q R n R0
  obtain ⟨X, X1, hX⟩ := arch C0 (show 0 < 1 - prk9 n R by grind)
  have XR : (1 : Rat) ≤ (X : Rat) := rat_le X1
  have Xp : (0 : Rat) < (X : Rat) := by grind
  obtain ⟨B, hB⟩ : ∃ B : Nat → Nat, ∀ e, B e = (R e * (X : Rat)).floor.toNat + 1 := ⟨_, fun _ => rfl⟩
  have rx : ∀ e, e < n → 0 ≤ R e * (X : Rat) := fun e he => Rat.mul_nonneg (R0 e he) (rat_nn X)
  have big : prn n B < (X + 1) ^ n := by
    have h1 : (prn n B : Rat) ≤ prk9 n (fun e => R e * (X : Rat) + 1) := prn_q (fun e he => by
      rw [hB e, rat_s]
      have := flo_le (rx e he)
      grind)
    have h2 := hC (X : Rat) XR
    have xn : (0 : Rat) < (X : Rat) ^ n := Rat.pow_pos Xp
    have h3 : (prk9 n R * (X : Rat) + C) * (X : Rat) ^ n < (X : Rat) * (X : Rat) ^ n := Rat.mul_lt_mul_of_pos_right (by grind) xn
    have h4 : prk9 n (fun e => R e * (X : Rat) + 1) * (X : Rat) < (X : Rat) ^ n * (X : Rat) := by grind
    have h5 : prk9 n (fun e => R e * (X : Rat) + 1) < (X : Rat) ^ n := Rat.lt_of_mul_lt_mul_right h4 (rat_nn X)
    have h6 : ((prn n B : Nat) : Rat) < ((X ^ n : Nat) : Rat) := by
      rw [Rat.natCast_pow]
      grind
    have h7 := Rat.natCast_lt_natCast.1 h6
    have h8 : X ^ n ≤ (X + 1) ^ n := Nat.pow_le_pow_left (by omega) n
    omega
  have dlt : ∀ i k : Nat, dig (X + 1) i k < X + 1 := fun i k => Nat.mod_lt _ (by omega)
  have lo2 : ∀ e, ∃ L : Rat, e < n → ∀ x : Nat → Nat, (∀ k, k < n → x k ≤ X) → L ≤ smq n (fun k => c e k * (x k : Rat)) ∧ smq n (fun k => c e k * (x k : Rat)) ≤ L + smq n (b e) * (X : Rat) := by
    intro e
    by_cases he : e < n
    · obtain ⟨L, hL⟩ := form_lo (c e) (b e) X n (fun k hk => hb e k he hk)
      exact ⟨L, fun _ => hL⟩
    · exact ⟨0, fun q => absurd q he⟩
  obtain ⟨L, hL⟩ := Classical.axiomOfChoice lo2
  obtain ⟨v, hv⟩ : ∃ v : Nat → Nat → Rat, ∀ e i, v e i = smq n (fun k => c e k * (dig (X + 1) i k : Rat)) - L e := ⟨_, fun _ _ => rfl⟩
  have vb : ∀ e i, e < n → 0 ≤ v e i ∧ v e i ≤ R e * (X : Rat) := by
    intro e i he
    have a := hL e he (fun k => dig (X + 1) i k) (fun k _ => by have := dlt i k; omega)
    have m := Rat.mul_le_mul_of_nonneg_right (hR e he) (rat_nn X)
    rw [hv]
    obtain ⟨a1, a2⟩ := a
    generalize smq n (fun k => c e k * (dig (X + 1) i k : Rat)) = S at a1 a2 ⊢
    constructor <;> grind
  have fb : ∀ e i, e < n → (v e i).floor.toNat < B e := by
    intro e i he
    have a := flo_mn (vb e i he).1 (vb e i he).2
    rw [hB]
    omega
  obtain ⟨i, j, ij, jm, eq⟩ := pigeon (prn n B) (fun i => enm B (fun e => (v e i).floor.toNat) n) (fun i _ => enm_lt (fun e he => fb e i he))
  have ev := enm_inj (fun e he => fb e i he) (fun e he => fb e j he) eq
  refine ⟨fun k => (dig (X + 1) i k : Int) - (dig (X + 1) j k : Int), ?_, fun e he => ?_⟩
  · refine Classical.byContradiction fun hc => ?_
    have same : ∀ k, k < n → dig (X + 1) i k = dig (X + 1) j k := by
      intro k hk
      refine Classical.byContradiction fun hne => hc ⟨k, hk, ?_⟩
      dsimp only
      omega
    have eq : enc (X + 1) (dig (X + 1) i) n = enc (X + 1) (dig (X + 1) j) n := by
      have q : ∀ t, t ≤ n → enc (X + 1) (dig (X + 1) i) t = enc (X + 1) (dig (X + 1) j) t := by
        intro t
        induction t with
        | zero => intro _; rfl
        | succ t ih =>
          intro ht
          show enc (X + 1) (dig (X + 1) i) t + dig (X + 1) i t * (X + 1) ^ t = enc (X + 1) (dig (X + 1) j) t + dig (X + 1) j t * (X + 1) ^ t
          rw [ih (by omega), same t (by omega)]
      exact q n (Nat.le_refl _)
    rw [enc_dig, enc_dig, Nat.mod_eq_of_lt (by omega), Nat.mod_eq_of_lt (by omega)] at eq
    omega
  · have a := flo_near (vb e i he).1 (vb e j he).1 (ev e he)
    rw [hv, hv] at a
    have s : smq n (fun k => c e k * ((((dig (X + 1) i k : Int) - (dig (X + 1) j k : Int) : Int)) : Rat)) = smq n (fun k => c e k * (dig (X + 1) i k : Rat)) - smq n (fun k => c e k * (dig (X + 1) j k : Rat)) := by
      rw [← smq_sub]
      refine smq_co (fun k _ => ?_)
      rw [Rat.intCast_sub, Rat.intCast_natCast, Rat.intCast_natCast]
      grind
    show -1 < smq n (fun k => c e k * ((((dig (X + 1) i k : Int) - (dig (X + 1) j k : Int) : Int)) : Rat)) ∧ smq n (fun k => c e k * ((((dig (X + 1) i k : Int) - (dig (X + 1) j k : Int) : Int)) : Rat)) < 1
    rw [s]
    obtain ⟨a1, a2⟩ := a
    constructor <;> grind
