/-! ROWS OF THE PARTER: values, a linear factor taken out, the nodes -/
theorem lst_ext : ∀ {P Q : List Int}, P.length = Q.length → (∀ k, pgt P k = pgt Q k) → P = Q
  | [], [], _, _ => rfl
  | [], _ :: _, h, _ => by simp at h
  | _ :: _, [], h, _ => by simp at h
  | a :: p, b :: q, h, e => by
    have e0 : a = b := e 0
    rw [e0, lst_ext (P := p) (Q := q) (by simpa using h) (fun k => e (k + 1))]
theorem lst_ev {P Q : List Int} (h : P.length = Q.length) (e : ∀ x : Rat, pev P x = pev Q x) : P = Q := lst_ext h (pev_inj e)
theorem pev_c (a : Int) (p : List Int) (x : Rat) : pev (a :: p) x = (a : Rat) + x * pev p x := rfl
theorem pup_ev (x : Rat) : ∀ (r : List Int) (a : Int), pev (pup a r) x = (a : Rat) + (1 + x) * pev r x
  | [], a => by show (a : Rat) + x * 0 = (a : Rat) + (1 + x) * 0; grind
  | b :: r, a => by
    show ((a + b : Int) : Rat) + x * pev (pup b r) x = (a : Rat) + (1 + x) * ((b : Rat) + x * pev r x)
    rw [pup_ev x r b, Rat.intCast_add]; grind
theorem pS_ev (x : Rat) : ∀ m : List Int, pev (pS m) x = pev m (1 + x)
  | [] => rfl
  | a :: p => by
    show pev (pup a (pS p)) x = (a : Rat) + (1 + x) * pev p (1 + x)
    rw [pup_ev, pS_ev x p]
theorem pH_ev (x : Rat) : ∀ m : List Int, pev (pH m) (2 * x) = 2 ^ (m.length - 1) * pev m x
  | [] => by show (0 : Rat) = _ * 0; grind
  | [a] => by
    show (((2 : Int) ^ 0 * a : Int) : Rat) + 2 * x * 0 = 2 ^ 0 * ((a : Rat) + x * 0)
    simp
  | a :: b :: p => by
    have ih := pH_ev x (b :: p)
    show (((2 : Int) ^ (p.length + 1) * a : Int) : Rat) + 2 * x * pev (pH (b :: p)) (2 * x) = 2 ^ (p.length + 1) * ((a : Rat) + x * pev (b :: p) x)
    rw [ih, Rat.intCast_mul, Rat.intCast_pow]
    show ((2 : Int) : Rat) ^ (p.length + 1) * (a : Rat) + 2 * x * (2 ^ p.length * pev (b :: p) x) = _
    have e : ((2 : Int) : Rat) = 2 := rfl
    rw [e]
    grind
/-- times (al + be y) -/
def lmu (al be : Int) (p : Int) : List Int → List Int
  | [] => [be * p]
  | x :: r => (al * x + be * p) :: lmu al be x r
def lml (al be : Int) (m : List Int) : List Int := lmu al be 0 m
theorem lmu_len (al be : Int) : ∀ (m : List Int) (p : Int), (lmu al be p m).length = m.length + 1
  | [], _ => rfl
  | x :: r, p => by show (lmu al be x r).length + 1 = _; rw [lmu_len al be r x]; rfl
theorem lml_len (al be : Int) (m : List Int) : (lml al be m).length = m.length + 1 := lmu_len al be m 0
theorem lmu_ev (al be : Int) (y : Rat) : ∀ (m : List Int) (p : Int), pev (lmu al be p m) y = be * p + (al + be * y) * pev m y
  | [], p => by
    show ((be * p : Int) : Rat) + y * 0 = be * p + (al + be * y) * 0
    rw [Rat.intCast_mul]; grind
  | x :: r, p => by
    show ((al * x + be * p : Int) : Rat) + y * pev (lmu al be x r) y = be * p + (al + be * y) * ((x : Rat) + y * pev r y)
    rw [lmu_ev al be y r x, Rat.intCast_add, Rat.intCast_mul, Rat.intCast_mul]; grind
theorem lml_ev (al be : Int) (m : List Int) (y : Rat) : pev (lml al be m) y = (al + be * y) * pev m y := by
  rw [lml, lmu_ev]
  have : ((0 : Int) : Rat) = 0 := rfl
  rw [this]; grind
theorem lmu_gt (al be : Int) : ∀ (m : List Int) (p : Int) (k : Nat), pgt (lmu al be p m) k = al * pgt m k + be * (if k = 0 then p else pgt m (k - 1))
  | [], p, 0 => by show be * p = al * 0 + be * p; omega
  | [], p, k + 1 => by
    show (0 : Int) = al * 0 + be * _
    rw [if_neg (by omega)]
    show (0 : Int) = al * 0 + be * 0
    omega
  | x :: r, p, 0 => by show al * x + be * p = al * x + be * p; rfl
  | x :: r, p, k + 1 => by
    show pgt (lmu al be x r) k = al * pgt r k + be * _
    rw [lmu_gt al be r x k, if_neg (show ¬ (k + 1 = 0) by omega)]
    cases k with
    | zero => rw [if_pos rfl]; rfl
    | succ k => rw [if_neg (by omega)]; rfl
theorem lml_0 (al be : Int) (m : List Int) : pgt (lml al be m) 0 = al * pgt m 0 := by
  rw [lml, lmu_gt]; simp
theorem rev_gt : ∀ (m : List Int) (k : Nat), k < m.length → pgt m.reverse k = pgt m (m.length - 1 - k) := by
  have app : ∀ (p q : List Int) (k : Nat), pgt (p ++ q) k = if k < p.length then pgt p k else pgt q (k - p.length) := by
    intro p
    induction p with
    | nil => intro q k; rw [if_neg (by simp)]; rfl
    | cons a p ih =>
      intro q k
      cases k with
      | zero => rw [if_pos (by simp)]; rfl
      | succ k =>
        show pgt (p ++ q) k = _
        rw [ih q k]
        by_cases c : k < p.length
        · rw [if_pos c, if_pos (by simp; exact c)]; rfl
        · rw [if_neg c, if_neg (by simp; omega)]
          rw [List.length_cons, show k + 1 - (p.length + 1) = k - p.length by omega]
  intro m
  induction m with
  | nil => intro k h; simp at h
  | cons a p ih =>
    intro k h
    rw [List.reverse_cons, app, List.length_reverse]
    rw [List.length_cons] at h ⊢
    by_cases c : k < p.length
    · rw [if_pos c, ih k c, show p.length + 1 - 1 - k = (p.length - 1 - k) + 1 by omega]; rfl
    · rw [if_neg c, show k - p.length = 0 by omega, show p.length + 1 - 1 - k = 0 by omega]; rfl
theorem lml_rev (al be : Int) (m : List Int) : (lml al be m).reverse = lml be al m.reverse := by
  refine lst_ext (by rw [List.length_reverse, lml_len, lml_len, List.length_reverse]) (fun k => ?_)
  have up : ∀ j : Nat, (if j = 0 then 0 else pgt m (j - 1)) = if j = 0 then 0 else pgt m (j - 1) := fun _ => rfl
  by_cases c : k < m.length + 1
  · rw [rev_gt _ _ (by rw [lml_len]; exact c), lml_len, lml, lml, lmu_gt, lmu_gt]
    have a1 : pgt m (m.length + 1 - 1 - k) = if k = 0 then 0 else pgt m.reverse (k - 1) := by
      by_cases c0 : k = 0
      · rw [if_pos c0, pgt_hi m _ (by omega)]
      · rw [if_neg c0, rev_gt m (k - 1) (by omega), show m.length - 1 - (k - 1) = m.length + 1 - 1 - k by omega]
    have a2 : (if m.length + 1 - 1 - k = 0 then 0 else pgt m (m.length + 1 - 1 - k - 1)) = pgt m.reverse k := by
      by_cases ck : k = m.length
      · rw [if_pos (by omega), pgt_hi m.reverse _ (by rw [List.length_reverse]; omega)]
      · rw [if_neg (by omega), rev_gt m k (by omega), show m.length + 1 - 1 - k - 1 = m.length - 1 - k by omega]
    rw [a1, a2]; omega
  · rw [pgt_hi _ _ (by rw [List.length_reverse, lml_len]; omega), pgt_hi _ _ (by rw [lml_len, List.length_reverse]; omega)]
theorem pS_lml (al be : Int) (m : List Int) : pS (lml al be m) = lml (al + be) be (pS m) := by
  refine lst_ev (by rw [pS_len, lml_len, lml_len, pS_len]) (fun x => ?_)
  rw [pS_ev, lml_ev, lml_ev, pS_ev, Rat.intCast_add]; grind
theorem pH_lml (al be : Int) (m : List Int) (h : m ≠ []) : pH (lml al be m) = lml (2 * al) be (pH m) := by
  refine lst_ev (by rw [pH_len, lml_len, lml_len, pH_len]) (fun x => ?_)
  have hx : x = 2 * (x / 2) := by grind
  rw [hx, pH_ev, lml_ev, lml_ev, pH_ev, lml_len, Rat.intCast_mul]
  obtain ⟨n, hn⟩ : ∃ n, m.length = n + 1 := by
    cases m with
    | nil => exact absurd rfl h
    | cons a p => exact ⟨p.length, rfl⟩
  rw [hn]
  show 2 ^ (n + 1) * _ = _ * (2 ^ n * _)
  have e : ((2 : Int) : Rat) = 2 := rfl
  rw [e]; grind
theorem pT_lml (al be : Int) (m : List Int) : pT (lml al be m) = lml (al + be) al (pT m) := by
  rw [pT, lml_rev, pS_lml, pT, Int.add_comm be al]
theorem vr_wle : ∀ (ws r : List Int) (l : Int), ws.length = r.length → (∀ w ∈ ws, 0 ≤ w) → vr l (wgt ws r) ≤ vr l r
  | [], [], _, _, _ => Nat.le_refl _
  | [], _ :: _, _, h, _ => by simp at h
  | _ :: _, [], _, h, _ => by simp at h
  | w :: ws, x :: r, l, h, hw => by
    have w0 : 0 ≤ w := hw w (List.mem_cons_self ..)
    have ih := fun l => vr_wle ws r l (by simpa using h) (fun v hv => hw v (List.mem_cons_of_mem _ hv))
    show vr l (w * x :: wgt ws r) ≤ _
    by_cases c : w = 0
    · subst c
      rw [Int.zero_mul, vr_cons]
      simp only [Int.mul_zero, Int.lt_irrefl, if_false, if_true]
      have := ih l
      have := @vr_del1 l x r
      omega
    · have e := vr_wgt [w] [x] l rfl (fun v hv => by rw [List.mem_singleton.1 hv]; omega)
      have e1 : vr l [w * x] = vr l [x] := e
      rw [vr_cons, vr_cons] at e1
      rw [vr_cons, vr_cons]
      have i := ih (if w * x = 0 then l else w * x)
      have s1 : (0 < w * x ↔ 0 < x) := ⟨fun q => by
        refine Int.lt_of_not_ge fun c => ?_
        have := Int.mul_nonpos_of_nonneg_of_nonpos w0 c
        omega, fun q => Int.mul_pos (by omega) q⟩
      have s2 : (w * x < 0 ↔ x < 0) := ⟨fun q => by
        refine Int.lt_of_not_ge fun c => ?_
        have := Int.mul_nonneg w0 c
        omega, fun q => Int.mul_neg_of_pos_of_neg (by omega) q⟩
      have e2 : vr (if w * x = 0 then l else w * x) r = vr (if x = 0 then l else x) r := by
        by_cases hx : x = 0
        · subst hx; simp
        · have : ¬ (w * x = 0) := by omega
          rw [if_neg this, if_neg hx]
          exact vr_same s1 s2
      have z1 : ∀ l : Int, vr l [] = 0 := fun _ => rfl
      rw [z1, z1] at e1
      omega
theorem lmu_eq (a b : Int) : ∀ (r : List Int) (x p : Int), lmu b a p (x :: r) = (b * x + a * p) :: (wadj a b (x :: r) ++ [a * lst1 (x :: r)])
  | [], x, p => rfl
  | y :: r, x, p => by
    show (b * x + a * p) :: lmu b a x (y :: r) = (b * x + a * p) :: ((b * y + a * x) :: (wadj a b (y :: r) ++ [a * lst1 (y :: r)]))
    rw [lmu_eq a b r y x]
/-- times b + a t with a, b not below 0 the changes don't grow -/
theorem vr_lml {a b : Int} (ha : 0 ≤ a) (hb : 0 ≤ b) (q : List Int) : vr 0 (lml b a q) ≤ vr 0 q := by
  cases q with
  | nil => show vr 0 [a * 0] ≤ 0; rw [Int.mul_zero]; exact Nat.le_refl _
  | cons x r =>
    rw [lml, lmu_eq]
    have h := vr_wadj ha hb r x 0 []
    rw [List.append_nil] at h
    refine Nat.le_trans ?_ h
    have e : (b * x + a * 0) :: (wadj a b (x :: r) ++ [a * lst1 (x :: r)]) = wgt (b :: ((wadj a b (x :: r)).map (fun _ => 1) ++ [a])) (x :: (wadj a b (x :: r) ++ [lst1 (x :: r)])) := by
      show _ = b * x :: wgt ((wadj a b (x :: r)).map (fun _ => 1) ++ [a]) (wadj a b (x :: r) ++ [lst1 (x :: r)])
      rw [Int.mul_zero, Int.add_zero]
      congr 1
      generalize wadj a b (x :: r) = L
      induction L with
      | nil => rfl
      | cons y L ih =>
        show y :: (L ++ [a * lst1 (x :: r)]) = 1 * y :: wgt (L.map (fun _ => 1) ++ [a]) (L ++ [lst1 (x :: r)])
        rw [ih, Int.one_mul]
    rw [e]
    refine vr_wle _ _ _ (by simp) (fun w hw => ?_)
    simp only [List.mem_cons, List.mem_append, List.mem_map, List.not_mem_nil, or_false] at hw
    rcases hw with q | ⟨_, _, q⟩ | q <;> omega
theorem vr_neg : ∀ (r : List Int) (l : Int), vr (-l) (r.map (fun x => -x)) = vr l r
  | [], _ => rfl
  | x :: r, l => by
    show vr (-l) (-x :: r.map _) = _
    rw [vr_cons, vr_cons, show -l * -x = l * x by grind]
    have e : (if -x = 0 then -l else -x) = -(if x = 0 then l else x) := by split <;> split <;> omega
    rw [e, vr_neg r]
theorem lml_neg (al be : Int) (m : List Int) : lml (-al) (-be) m = (lml al be m).map (fun x => -x) := by
  have g : ∀ (m : List Int) (p : Int), lmu (-al) (-be) p m = (lmu al be p m).map (fun x => -x) := by
    intro m
    induction m with
    | nil => intro p; show [-be * p] = [-(be * p)]; rw [Int.neg_mul]
    | cons x r ih => intro p; show (-al * x + -be * p) :: lmu (-al) (-be) x r = -(al * x + be * p) :: (lmu al be x r).map _; rw [ih x]; congr 1; rw [Int.neg_mul, Int.neg_mul]; omega
  exact g m 0
/-- a linear factor whose zero is not inside -/
theorem pV_lml {al be : Int} (m : List Int) (h : (0 ≤ al ∧ 0 ≤ al + be) ∨ (al ≤ 0 ∧ al + be ≤ 0)) : pV (lml al be m) ≤ pV m := by
  rw [pV, pT_lml]
  rcases h with h | h
  · exact vr_lml h.1 h.2 _
  · have e := lml_neg (-(al + be)) (-al) (pT m)
    rw [Int.neg_neg, Int.neg_neg] at e
    rw [e]
    have e2 := vr_neg (lml (-(al + be)) (-al) (pT m)) 0
    rw [Int.neg_zero] at e2
    rw [e2]
    exact vr_lml (by omega) (by omega) _
theorem lst_map (c : Int) (m : List Int) : wgt (m.map (fun _ => c)) m = m.map (c * ·) := by
  induction m with
  | nil => rfl
  | cons x r ih => show c * x :: wgt _ _ = _; rw [ih]; rfl
theorem pS_sc (c : Int) (m : List Int) : pS (m.map (c * ·)) = (pS m).map (c * ·) := by
  have u : ∀ (r : List Int) (a : Int), pup (c * a) (r.map (c * ·)) = (pup a r).map (c * ·) := by
    intro r
    induction r with
    | nil => intro a; rfl
    | cons x r ih => intro a; show (c * a + c * x) :: pup (c * x) (r.map _) = c * (a + x) :: _; rw [ih x, Int.mul_add]
  induction m with
  | nil => rfl
  | cons a p ih => show pup (c * a) (pS (p.map _)) = (pup a (pS p)).map _; rw [ih, u]
theorem pH_sc (c : Int) (m : List Int) : pH (m.map (c * ·)) = (pH m).map (c * ·) := by
  induction m with
  | nil => rfl
  | cons a p ih =>
    show 2 ^ (p.map (c * ·)).length * (c * a) :: pH (p.map _) = c * (2 ^ p.length * a) :: (pH p).map _
    rw [ih, List.length_map]
    congr 1
    rw [← Int.mul_assoc, ← Int.mul_assoc, Int.mul_comm _ c]
theorem pV_sc {c : Int} (h : 0 < c) (m : List Int) : pV (m.map (c * ·)) = pV m := by
  rw [pV, pT, ← List.map_reverse, pS_sc, ← lst_map, vr_wgt _ _ _ (by simp) (fun w hw => ?_)]
  · rfl
  · simp only [List.mem_map] at hw
    obtain ⟨_, _, rfl⟩ := hw
    exact h
/-- both halves of -1 .. 1 -/
def pD : List Int → List Int
  | [] => []
  | a :: p => a :: (pD p).map (2 * ·)
theorem pD_len (m : List Int) : (pD m).length = m.length := by
  induction m with
  | nil => rfl
  | cons a p ih => show ((pD p).map _).length + 1 = _; rw [List.length_map, ih]; rfl
theorem pHD (m : List Int) : pH (pD m) = m.map ((2 : Int) ^ (m.length - 1) * ·) := by
  induction m with
  | nil => rfl
  | cons a p ih =>
    show 2 ^ ((pD p).map (2 * ·)).length * a :: pH ((pD p).map (2 * ·)) = 2 ^ (p.length + 1 - 1) * a :: p.map _
    rw [List.length_map, pD_len, pH_sc, ih, Nat.add_sub_cancel, List.map_map]
    congr 1
    cases p with
    | nil => rfl
    | cons b q =>
      refine List.map_congr_left (fun x _ => ?_)
      show 2 * (2 ^ (q.length + 1 - 1) * x) = 2 ^ (q.length + 1) * x
      rw [Nat.add_sub_cancel, Int.pow_succ, ← Int.mul_assoc, Int.mul_comm 2 (2 ^ q.length)]
theorem pV_two {m : List Int} {d : Nat} (hm : m.length = d + 1) (hd : d ≤ 8) : pV m + pV (pS m) ≤ d := by
  have h := pV_half (m := pD m) (by rw [pD_len]; exact hm) hd
  rw [pHD, pS_sc, pV_sc (Int.pow_pos (by omega)), pV_sc (Int.pow_pos (by omega))] at h
  have := vr_len0 (pT (pD m))
  rw [pT_len, pD_len, hm] at this
  have e : pV (pD m) = vr 0 (pT (pD m)) := rfl
  omega
theorem pSSH (m : List Int) : pS (pS (pH m)) = pH (pS m) := by
  refine lst_ev (by rw [pS_len, pS_len, pH_len, pH_len, pS_len]) (fun x => ?_)
  have hx : x = 2 * (x / 2) := by grind
  rw [pS_ev, pS_ev, hx, pH_ev, pS_ev, show 1 + (1 + 2 * (x / 2)) = 2 * (1 + x / 2) by grind, pH_ev, pS_len]
