/-! THE PARTER'S ROWS BY VALUE: moving by one -/
/-- what 80 limbs hold -/
def BB : Int := 4294967296 ^ 80
set_option maxRecDepth 100000 in
theorem gln_mv : ∀ i : Nat, i < 9 → gln (270 + 4 * i + 1) = 80 ∧ gln (272 + 4 * i + 1) = 80 := by
  have h : ∀ i ∈ List.range 9, gln (270 + 4 * i + 1) = 80 ∧ gln (272 + 4 * i + 1) = 80 := by decide +kernel
  intro i hi
  exact h i (List.mem_range.2 hi)
theorem rm_mv {i : Nat} (h : i < 9) : (4294967296 : Int) ^ rm9 (270 + 4 * i) = BB := by
  unfold rm9 BB; rw [(gln_mv i h).1]; rfl
theorem rm_tst {i : Nat} (h : i < 9) : (4294967296 : Int) ^ rm9 (272 + 4 * i) = BB := by
  unfold rm9 BB; rw [(gln_mv i h).2]; rfl
/-- rows of long numbers: b = 270 the row that is moved, b = 272 the one that is tested -/
def bgs (s : im_S) (b d : Nat) (m : List Int) : Prop := ∀ i, i ≤ d → big s (b + 4 * i) (pgt m i)
def swp (w : Int) : List Int → List Int
  | [] => []
  | [a] => [a]
  | a :: b :: r => (a + w * pgt (swp w (b :: r)) 0) :: swp w (b :: r)
theorem swp_len (w : Int) : ∀ q : List Int, (swp w q).length = q.length
  | [] => rfl
  | [_] => rfl
  | a :: b :: r => by
    show (swp w (b :: r)).length + 1 = _
    rw [swp_len w (b :: r)]; rfl
theorem swp_gt (w : Int) : ∀ (q : List Int) (k : Nat), pgt (swp w q) k = pgt q k + w * pgt (swp w q) (k + 1)
  | [], k => by show (0 : Int) = 0 + w * 0; omega
  | [a], 0 => by show a = a + w * 0; omega
  | [a], k + 1 => by show (0 : Int) = 0 + w * 0; omega
  | a :: b :: r, 0 => rfl
  | a :: b :: r, k + 1 => swp_gt w (b :: r) k
theorem swp_bd {w : Int} (hw : w.natAbs = 1) {X : Nat} : ∀ (q : List Int), pab q X → ∀ k, (pgt (swp w q) k).natAbs ≤ (q.length - k) * X
  | [], h, k => by show (0 : Int).natAbs ≤ _; simp
  | [a], h, 0 => by have := h 0; show a.natAbs ≤ (1 - 0) * X; have e : pgt [a] 0 = a := rfl; rw [e] at this; omega
  | [a], h, k + 1 => by show (0 : Int).natAbs ≤ _; simp
  | a :: b :: r, h, 0 => by
    have ih := swp_bd hw (b :: r) (fun k => h (k + 1)) 0
    have h0 : a.natAbs ≤ X := h 0
    show (a + w * pgt (swp w (b :: r)) 0).natAbs ≤ (r.length + 1 + 1 - 0) * X
    have m : (w * pgt (swp w (b :: r)) 0).natAbs = (pgt (swp w (b :: r)) 0).natAbs := by rw [Int.natAbs_mul, hw, Nat.one_mul]
    have e : (r.length + 1 + 1 - 0) * X = (r.length + 1) * X + X := by rw [Nat.sub_zero, Nat.succ_mul]
    have e2 : ((b :: r).length - 0) * X = (r.length + 1) * X := rfl
    omega
  | a :: b :: r, h, k + 1 => by
    have ih := swp_bd hw (b :: r) (fun k => h (k + 1)) k
    show (pgt (swp w (b :: r)) k).natAbs ≤ (r.length + 1 + 1 - (k + 1)) * X
    have e : r.length + 1 + 1 - (k + 1) = (b :: r).length - k := by rw [List.length_cons]; omega
    rw [e]; exact ih
theorem swp_ev (w : Int) (y : Rat) : ∀ q : List Int, pev q y = (pgt (swp w q) 0 : Rat) + (y - w) * pev (swp w q).tail y
  | [] => by show (0 : Rat) = ((0 : Int) : Rat) + _ * 0; rw [rat_i0]; grind
  | [a] => by show (a : Rat) + y * 0 = (a : Rat) + _ * 0; grind
  | a :: b :: r => by
    have ih := swp_ev w y (b :: r)
    obtain ⟨h, t, e⟩ : ∃ h t, swp w (b :: r) = h :: t := by
      have := swp_len w (b :: r)
      cases hh : swp w (b :: r) with
      | nil => rw [hh] at this; simp at this
      | cons h t => exact ⟨h, t, rfl⟩
    rw [e] at ih
    show (a : Rat) + y * pev (b :: r) y = ((a + w * pgt (swp w (b :: r)) 0 : Int) : Rat) + (y - w) * pev (swp w (b :: r)) y
    rw [ih, e]
    show (a : Rat) + y * ((h : Rat) + (y - w) * pev t y) = ((a + w * h : Int) : Rat) + (y - w) * ((h : Rat) + y * pev t y)
    rw [Rat.intCast_add, Rat.intCast_mul]; grind
def fsw (w : Int) : Nat → List Int → List Int
  | 0, q => q
  | n + 1, q => pgt (swp w q) 0 :: fsw w n (swp w q).tail
theorem fsw_len (w : Int) : ∀ (n : Nat) (q : List Int), n + 1 ≤ q.length → (fsw w n q).length = q.length
  | 0, q, _ => rfl
  | n + 1, q, h => by
    show (fsw w n (swp w q).tail).length + 1 = _
    rw [fsw_len w n _ (by rw [List.length_tail, swp_len]; omega), List.length_tail, swp_len]; omega
theorem fsw_ev (w : Int) (z : Rat) : ∀ (n : Nat) (q : List Int), q.length = n + 1 → pev (fsw w n q) z = pev q (z + w)
  | 0, q, h => by
    match q, h with
    | [a], _ => show (a : Rat) + z * 0 = (a : Rat) + (z + w) * 0; grind
  | n + 1, q, h => by
    show (pgt (swp w q) 0 : Rat) + z * pev (fsw w n (swp w q).tail) z = _
    rw [fsw_ev w z n _ (by rw [List.length_tail, swp_len]; omega), swp_ev w (z + w) q]
    grind
theorem pgt_app1 : ∀ (p q : List Int) (k : Nat), pgt (p ++ q) k = if k < p.length then pgt p k else pgt q (k - p.length)
  | [], q, k => by rw [if_neg (by simp)]; rfl
  | a :: p, q, 0 => by rw [if_pos (by simp)]; rfl
  | a :: p, q, k + 1 => by
    show pgt (p ++ q) k = _
    rw [pgt_app1 p q k]
    by_cases c : k < p.length
    · rw [if_pos c, if_pos (by simp; exact c)]; rfl
    · rw [if_neg c, if_neg (by simp; omega), List.length_cons, show k + 1 - (p.length + 1) = k - p.length by omega]
theorem pgt_tail (q : List Int) (k : Nat) : pgt q.tail k = pgt q (k + 1) := by
  cases q with
  | nil => rfl
  | cons a p => rfl
/-- what moving changes: the row's long numbers -/
def mvf (s s' : im_S) : Prop := gfr (fun c f => (270 ≤ c ∧ c < 306 ∧ c % 4 = 2) ∧ (f = 1 ∨ f = 2)) (fun c => 271 ≤ c ∧ c < 307 ∧ c % 4 = 3) s s'
theorem mvf_b {s s' s2 : im_S} {i : Nat} (h : mvf s s') (hi : i < 9) (hb : bfr (270 + 4 * i) s' s2) : mvf s s2 := gfr_b h hb (by omega) (by omega) (by omega)
theorem bgs_b {s s' : im_S} {b d j : Nat} {m m' : List Int} {v : Int} (h : bgs s b d m) (hb : big s' (b + 4 * j) v) (f : bfr (b + 4 * j) s s') (h1 : pgt m' j = v) (h2 : ∀ k, k ≤ d → k ≠ j → pgt m' k = pgt m k) : bgs s' b d m' := fun i hi => by
  by_cases c : i = j
  · subst c; rw [h1]; exact hb
  · rw [h2 i hi c]; exact big_fr (h i hi) f (by omega)
/-- factorials from the top: (d + 1) d (d - 1) .. -/
def ffl (d : Nat) : Nat → Nat
  | 0 => 1
  | i + 1 => ffl d i * (d + 1 - i)
theorem ffl_pos (d : Nat) : ∀ i, i ≤ d + 1 → 1 ≤ ffl d i
  | 0, _ => Nat.le_refl _
  | i + 1, h => by
    show 1 ≤ ffl d i * (d + 1 - i)
    have := ffl_pos d i (by omega)
    exact Nat.mul_pos this (by omega)
theorem ffl_mono (d : Nat) : ∀ j i, i + j ≤ d + 1 → ffl d i ≤ ffl d (i + j)
  | 0, i, _ => Nat.le_refl _
  | j + 1, i, h => by
    have a := ffl_mono d j i (by omega)
    show ffl d i ≤ ffl d (i + j) * (d + 1 - (i + j))
    have b : ffl d (i + j) * 1 ≤ ffl d (i + j) * (d + 1 - (i + j)) := Nat.mul_le_mul_left _ (by omega)
    omega
theorem ffl_ok {M d i : Nat} (h : ((M * ffl d d : Nat) : Int) < BB) (hi : i < d) {x y : Int} {n : Nat} (hn : n + 1 ≤ d + 1 - i) (hx : x.natAbs ≤ M * ffl d i) (hy : y.natAbs ≤ n * (M * ffl d i)) : (x.natAbs : Int) + (y.natAbs : Int) < BB := by
  have a := ffl_mono d (d - (i + 1)) (i + 1) (by omega)
  rw [show i + 1 + (d - (i + 1)) = d by omega] at a
  have b : M * ffl d (i + 1) ≤ M * ffl d d := Nat.mul_le_mul_left _ a
  have c : M * ffl d (i + 1) = (d + 1 - i) * (M * ffl d i) := by show M * (ffl d i * (d + 1 - i)) = _; grind
  have e : (n + 1) * (M * ffl d i) ≤ (d + 1 - i) * (M * ffl d i) := Nat.mul_le_mul_right _ hn
  rw [Nat.succ_mul] at e
  omega
theorem moveBy_b {s : im_S} {d M : Nat} {w : Int} {m : List Int} {Q : im_S → Prop} (hw : w = 1 ∨ w = -1) (hd : s.1 267 4 = (d : Int)) (d8 : d ≤ 8) (hm : m.length = d + 1) (hs : bgs s 270 d m) (hM : pab m M) (hB : ((M * ffl d d : Nat) : Int) < BB) (hQ : ∀ s' m', bgs s' 270 d m' → m'.length = d + 1 → (∀ z : Rat, pev m' z = pev m (z + w)) → mvf s s' → Q s') : C_moveBy5 w s Q := by
  have hw1 : w.natAbs = 1 := by omega
  refine ⟨fun a => ∃ (i : Nat) (pre q : List Int), a.1 = (i : Int) ∧ i ≤ d ∧ pre.length = i ∧ q.length = d + 1 - i ∧ fsw w d m = pre ++ fsw w (d - i) q ∧ pab q (M * ffl d i) ∧ bgs a.2 270 d (pre ++ q) ∧ mvf s a.2, ⟨0, [], m, rfl, by omega, rfl, hm, rfl, by rw [show M * ffl d 0 = M from Nat.mul_one M]; exact hM, hs, gfr_refl _ _ _⟩, ?_⟩
  rintro ⟨x, s1⟩ ⟨i, pre, q, ei, id, lp, lq, ef, bq, hs1, f1⟩
  dsimp only at ei hs1 f1 ⊢
  subst ei
  have hd1 : cgf s1 267 4 = (d : Int) := by show s1.1 267 4 = _; rw [f1.1 _ _ (by omega)]; exact hd
  refine ⟨fun c => ?_, fun c => ?_⟩
  · rw [hd1] at c
    have : i = d := by omega
    subst this
    rw [Nat.sub_self] at ef
    have ef' : fsw w i m = pre ++ q := ef
    refine hQ s1 (pre ++ q) hs1 (by rw [List.length_append]; omega) (fun z => ?_) f1
    rw [← ef', fsw_ev w z i m hm]
  · rw [hd1] at c ⊢
    have ex : w32 ((d : Int) - 1) = (d : Int) - 1 := w32_id (by omega) (by omega)
    rw [ex]
    have bs := swp_bd hw1 q bq
    -- inside: places above j are done
    refine ⟨fun a => (i : Int) - 1 ≤ a.1 ∧ a.1 ≤ (d : Int) - 1 ∧ mvf s a.2 ∧ bgs a.2 270 d (pre ++ pmk (d + 1 - i) (fun k => if (i : Int) + k ≤ a.1 then pgt q k else pgt (swp w q) k)), ⟨by dsimp only; omega, by dsimp only; omega, f1, fun k hk => ?_⟩, ?_⟩
    · dsimp only
      have := hs1 k hk
      rw [pgt_app1] at this ⊢
      split
      · rename_i h; rw [if_pos h] at this; exact this
      · rename_i h
        rw [if_neg h] at this
        rw [pmk_gt, if_pos (by omega)]
        split
        · exact this
        · have e : pgt (swp w q) (k - pre.length) = pgt q (k - pre.length) := by
            rw [swp_gt, pgt_hi (swp w q) _ (by rw [swp_len]; omega)]; omega
          rw [e]; exact this
    rintro ⟨j9, s2⟩ ⟨j1, j2, f2, hs2⟩
    dsimp only at j1 j2 f2 hs2 ⊢
    refine ⟨fun cj => ?_, fun cj => ?_⟩
    · have ej : j9 = (i : Int) - 1 := by omega
      subst ej
      refine ⟨i + 1, pre ++ [pgt (swp w q) 0], (swp w q).tail, w32s (by omega), by omega, by rw [List.length_append, lp]; rfl, by rw [List.length_tail, swp_len]; omega, ?_, fun k => ?_, ?_, f2⟩
      · rw [ef, show d - i = (d - (i + 1)) + 1 by omega]
        show pre ++ (pgt (swp w q) 0 :: fsw w (d - (i + 1)) (swp w q).tail) = _
        rw [List.append_assoc]; rfl
      · rw [pgt_tail]
        have b1 := bs (k + 1)
        show _ ≤ M * (ffl d i * (d + 1 - i))
        have : (q.length - (k + 1)) * (M * ffl d i) ≤ (d + 1 - i) * (M * ffl d i) := Nat.mul_le_mul_right _ (by omega)
        have e : M * (ffl d i * (d + 1 - i)) = (d + 1 - i) * (M * ffl d i) := by grind
        omega
      · intro k hk
        have h := hs2 k hk
        have e : pgt (pre ++ [pgt (swp w q) 0] ++ (swp w q).tail) k = pgt (pre ++ pmk (d + 1 - i) (fun k => if (i : Int) + k ≤ (i : Int) - 1 then pgt q k else pgt (swp w q) k)) k := by
          rw [List.append_assoc, pgt_app1 pre ([pgt (swp w q) 0] ++ _), pgt_app1 pre (pmk _ _)]
          by_cases c1 : k < pre.length
          · rw [if_pos c1, if_pos c1]
          · rw [if_neg c1, if_neg c1, pmk_gt, if_pos (by omega), if_neg (by omega)]
            show pgt (pgt (swp w q) 0 :: (swp w q).tail) (k - pre.length) = _
            cases hk2 : k - pre.length with
            | zero => rfl
            | succ n => show pgt (swp w q).tail n = _; rw [pgt_tail]
        rw [e]; exact h
    · obtain ⟨j, hj⟩ : ∃ j : Nat, j9 = (j : Int) := ⟨j9.toNat, by omega⟩
      subst hj
      rw [w32s (by omega), Int.toNat_natCast, Int.toNat_natCast]
      have a1 := hs2 j (by omega)
      have a2 := hs2 (j + 1) (by omega)
      rw [pgt_app1, if_neg (by omega), pmk_gt, if_pos (by omega), if_pos (by omega)] at a1
      rw [pgt_app1, if_neg (by omega), pmk_gt, if_pos (by omega), if_neg (by omega), show j + 1 - pre.length = (j - pre.length) + 1 by omega] at a2
      have b1 := bq (j - pre.length)
      have b2 := bs (j - pre.length + 1)
      have b4 := ffl_ok hB (show i < d by omega) (by omega) b1 b2
      have g := (gln_mv j (by omega)).1
      refine add_b a1 a2 (by omega) (by omega) hw (by rw [rm_mv (by omega)]; exact b4) (fun s3 b3' f3 => ⟨?_, ?_, mvf_b f2 (by omega) f3, bgs_b hs2 b3' f3 ?_ (fun k hk hkj => ?_)⟩)
      · dsimp only; rw [w32_id (by omega) (by omega)]; omega
      · dsimp only; rw [w32_id (by omega) (by omega)]; omega
      · have ew : w32 ((j : Int) + -1) = (j : Int) - 1 := w32_id (by omega) (by omega)
        dsimp only
        rw [ew, pgt_app1, if_neg (by omega), pmk_gt, if_pos (by omega), if_neg (by omega), swp_gt]
      · have ew : w32 ((j : Int) + -1) = (j : Int) - 1 := w32_id (by omega) (by omega)
        dsimp only
        rw [ew, pgt_app1, pgt_app1]
        by_cases c1 : k < pre.length
        · rw [if_pos c1, if_pos c1]
        · have hlt : k - pre.length < d + 1 - i := by omega
          rw [if_neg c1, if_neg c1, pmk_gt, pmk_gt, if_pos hlt, if_pos hlt]
          by_cases c2 : k < j
          · have q1 : (i : Int) + ((k - pre.length : Nat) : Int) ≤ (j : Int) - 1 := by omega
            have q2 : (i : Int) + ((k - pre.length : Nat) : Int) ≤ (j : Int) := by omega
            rw [if_pos q1, if_pos q2]
          · have q1 : ¬ ((i : Int) + ((k - pre.length : Nat) : Int) ≤ (j : Int) - 1) := by omega
            have q2 : ¬ ((i : Int) + ((k - pre.length : Nat) : Int) ≤ (j : Int)) := by omega
            rw [if_neg q1, if_neg q2]
