/-! THE PARTER'S ROWS: shift by one (pS), half the width (pH), the row whose signs are counted (pT), and that the halves' changes are at most the whole's -/
def pup (a : Int) : List Int → List Int
  | [] => [a]
  | x :: r => (a + x) :: pup x r
def pS : List Int → List Int
  | [] => []
  | a :: p => pup a (pS p)
def pH : List Int → List Int
  | [] => []
  | a :: p => 2 ^ p.length * a :: pH p
def pT (m : List Int) : List Int := pS m.reverse
theorem pup_len (a : Int) (r : List Int) : (pup a r).length = r.length + 1 := by
  induction r generalizing a with
  | nil => rfl
  | cons x r ih => show (pup x r).length + 1 = _; rw [ih x]; rfl
theorem pS_len (m : List Int) : (pS m).length = m.length := by
  induction m with
  | nil => rfl
  | cons a p ih => show (pup a (pS p)).length = _; rw [pup_len, ih]; rfl
theorem pH_len (m : List Int) : (pH m).length = m.length := by
  induction m with
  | nil => rfl
  | cons a p ih => show (pH p).length + 1 = _; rw [ih]; rfl
theorem pT_len (m : List Int) : (pT m).length = m.length := by rw [pT, pS_len, List.length_reverse]
/-! linear forms: rows of factors -/
def dot : List Int → List Int → Int
  | [], _ => 0
  | _ :: _, [] => 0
  | a :: v, x :: m => a * x + dot v m
def vad : List Int → List Int → List Int
  | [], w => w
  | a :: v, [] => a :: v
  | a :: v, b :: w => (a + b) :: vad v w
def vsm (c : Int) (v : List Int) : List Int := v.map (c * ·)
theorem dot_ad : ∀ (v w m : List Int), dot (vad v w) m = dot v m + dot w m
  | [], w, m => by show dot w m = 0 + dot w m; omega
  | a :: v, [], m => by show dot (a :: v) m = dot (a :: v) m + 0; omega
  | a :: v, b :: w, [] => rfl
  | a :: v, b :: w, x :: m => by
    show (a + b) * x + dot (vad v w) m = (a * x + dot v m) + (b * x + dot w m)
    rw [dot_ad v w m, Int.add_mul]; omega
theorem dot_sm (c : Int) : ∀ (v m : List Int), dot (vsm c v) m = c * dot v m
  | [], m => by show (0 : Int) = c * 0; omega
  | a :: v, [] => by show (0 : Int) = c * 0; omega
  | a :: v, x :: m => by
    show c * a * x + dot (vsm c v) m = c * (a * x + dot v m)
    rw [dot_sm c v m, Int.mul_add, Int.mul_assoc]
def mp (A : List (List Int)) (m : List Int) : List Int := A.map (fun v => dot v m)
def vup (a : List Int) : List (List Int) → List (List Int)
  | [] => [a]
  | x :: r => vad a x :: vup x r
def vS : List (List Int) → List (List Int)
  | [] => []
  | a :: p => vup a (vS p)
def vH : List (List Int) → List (List Int)
  | [] => []
  | a :: p => vsm (2 ^ p.length) a :: vH p
def vadj : List (List Int) → List (List Int)
  | x :: y :: r => vad x y :: vadj (y :: r)
  | _ => []
def vlst1 : List (List Int) → List Int
  | [] => []
  | [x] => x
  | _ :: y :: r => vlst1 (y :: r)
def vhds : Nat → List (List Int) → List (List Int)
  | 0, _ => []
  | n + 1, b => b.headD [] :: vhds n (vadj b)
def vlsts : Nat → List (List Int) → List (List Int)
  | 0, _ => []
  | n + 1, b => vlsts n (vadj b) ++ [vlst1 b]
theorem mp_up (m : List Int) : ∀ (a : List Int) (r : List (List Int)), pup (dot a m) (mp r m) = mp (vup a r) m
  | a, [] => rfl
  | a, x :: r => by
    show (dot a m + dot x m) :: pup (dot x m) (mp r m) = dot (vad a x) m :: mp (vup x r) m
    rw [mp_up m x r, dot_ad]
theorem mp_S (m : List Int) : ∀ (A : List (List Int)), pS (mp A m) = mp (vS A) m
  | [] => rfl
  | a :: p => by
    show pup (dot a m) (pS (mp p m)) = mp (vup a (vS p)) m
    rw [mp_S m p, mp_up]
theorem mp_len (A : List (List Int)) (m : List Int) : (mp A m).length = A.length := List.length_map ..
theorem mp_H (m : List Int) : ∀ (A : List (List Int)), pH (mp A m) = mp (vH A) m
  | [] => rfl
  | a :: p => by
    show 2 ^ (mp p m).length * dot a m :: pH (mp p m) = dot (vsm (2 ^ p.length) a) m :: mp (vH p) m
    rw [mp_H m p, mp_len, dot_sm]
theorem mp_adj (m : List Int) : ∀ (A : List (List Int)), adj (mp A m) = mp (vadj A) m
  | [] => rfl
  | [_] => rfl
  | x :: y :: r => by
    show (dot x m + dot y m) :: adj (mp (y :: r) m) = dot (vad x y) m :: mp (vadj (y :: r)) m
    rw [mp_adj m (y :: r), dot_ad]
theorem mp_lst1 (m : List Int) : ∀ (A : List (List Int)), lst1 (mp A m) = dot (vlst1 A) m
  | [] => by show (0 : Int) = dot [] m; rfl
  | [_] => rfl
  | x :: y :: r => mp_lst1 m (y :: r)
theorem mp_hds (m : List Int) : ∀ (n : Nat) (A : List (List Int)), hds n (mp A m) = mp (vhds n A) m
  | 0, _ => rfl
  | n + 1, A => by
    show (mp A m).headD 0 :: hds n (adj (mp A m)) = dot (A.headD []) m :: mp (vhds n (vadj A)) m
    rw [mp_adj, mp_hds m n (vadj A)]
    cases A with
    | nil => rfl
    | cons a p => rfl
theorem mp_app (m : List Int) (A B : List (List Int)) : mp (A ++ B) m = mp A m ++ mp B m := List.map_append ..
theorem mp_lsts (m : List Int) : ∀ (n : Nat) (A : List (List Int)), lsts n (mp A m) = mp (vlsts n A) m
  | 0, _ => rfl
  | n + 1, A => by
    show lsts n (adj (mp A m)) ++ [lst1 (mp A m)] = mp (vlsts n (vadj A) ++ [vlst1 A]) m
    rw [mp_adj, mp_lsts m n (vadj A), mp_app, mp_lst1]
    rfl
theorem mp_rev (A : List (List Int)) (m : List Int) : (mp A m).reverse = mp A.reverse m := by
  show (A.map _).reverse = A.reverse.map _
  rw [List.map_reverse]
/-- weights: one factor a place -/
def wgt : List Int → List Int → List Int
  | w :: ws, x :: r => w * x :: wgt ws r
  | _, _ => []
def vwgt : List Int → List (List Int) → List (List Int)
  | w :: ws, x :: r => vsm w x :: vwgt ws r
  | _, _ => []
theorem mp_wgt (m : List Int) : ∀ (ws : List Int) (A : List (List Int)), wgt ws (mp A m) = mp (vwgt ws A) m
  | [], _ => rfl
  | _ :: _, [] => rfl
  | w :: ws, x :: r => by
    show w * dot x m :: wgt ws (mp r m) = dot (vsm w x) m :: mp (vwgt ws r) m
    rw [mp_wgt m ws r, dot_sm]
theorem vr_wgt : ∀ (ws r : List Int) (l : Int), ws.length = r.length → (∀ w ∈ ws, 0 < w) → vr l (wgt ws r) = vr l r
  | [], [], _, _, _ => rfl
  | [], _ :: _, _, h, _ => by simp at h
  | _ :: _, [], _, h, _ => by simp at h
  | w :: ws, x :: r, l, h, hw => by
    show vr l (w * x :: wgt ws r) = _
    have w0 : 0 < w := hw w (List.mem_cons_self ..)
    have s1 : (0 < w * x ↔ 0 < x) := ⟨fun q => by
      refine Int.lt_of_not_ge fun c => ?_
      have := Int.mul_nonpos_of_nonneg_of_nonpos (Int.le_of_lt w0) c
      omega, fun q => Int.mul_pos w0 q⟩
    have s2 : (w * x < 0 ↔ x < 0) := ⟨fun q => by
      refine Int.lt_of_not_ge fun c => ?_
      have := Int.mul_nonneg (Int.le_of_lt w0) c
      omega, fun q => Int.mul_neg_of_pos_of_neg w0 q⟩
    rw [vr_cons, vr_cons]
    have e1 : (l * (w * x) < 0) ↔ (l * x < 0) := by rw [mul_neg_iff (a := l) (b := w * x), mul_neg_iff (a := l) (b := x), s1, s2]
    have ih := vr_wgt ws r (if w * x = 0 then l else w * x) (by simpa using h) (fun v hv => hw v (List.mem_cons_of_mem _ hv))
    rw [ih]
    have e2 : vr (if w * x = 0 then l else w * x) r = vr (if x = 0 then l else x) r := by
      by_cases hx : x = 0
      · subst hx; simp
      · have : ¬ (w * x = 0) := by
          rcases Int.lt_trichotomy x 0 with q | q | q
          · have := s2.2 q; omega
          · exact absurd q hx
          · have := s1.2 q; omega
        rw [if_neg this, if_neg hx]
        exact vr_same s1 s2
    rw [e2]
    by_cases c : l * x < 0
    · rw [if_pos c, if_pos (e1.2 c)]
    · rw [if_neg c, if_neg (fun z => c (e1.1 z))]
/-- the rows of the identity -/
def idr (n : Nat) : List (List Int) := (List.range n).map (fun i => (List.range n).map (fun j => if i = j then 1 else 0))
def chz : Nat → Nat → Nat
  | _, 0 => 1
  | 0, _ + 1 => 0
  | n + 1, k + 1 => chz n k + chz n (k + 1)
/-- 840 over the binomials -/
def wch (d : Nat) : List Int := (List.range (d + 1)).map (fun j => ((840 / chz d j : Nat) : Int))
def w2u (d : Nat) : List Int := (List.range (d + 1)).map (fun j => (2 : Int) ^ j)
def w2d (d : Nat) : List Int := (List.range (d + 1)).map (fun j => (2 : Int) ^ (d - j))
/-- the identities, by reckoning -/
def hok (d : Nat) : Bool :=
  let e := vwgt (wch d) (vS (idr (d + 1)).reverse)
  decide (vwgt (wch d) (vS (vH (idr (d + 1))).reverse) = vwgt (w2u d) (vlsts (d + 1) e)) && decide (vwgt (wch d) (vS (vS (vH (idr (d + 1)))).reverse) = vwgt (w2d d) (vhds (d + 1) e))
theorem hok_all : hok 0 = true ∧ hok 1 = true ∧ hok 2 = true ∧ hok 3 = true ∧ hok 4 = true ∧ hok 5 = true ∧ hok 6 = true ∧ hok 7 = true ∧ hok 8 = true := by decide +kernel
theorem wch_pos : ∀ d : Nat, d ≤ 8 → ∀ w ∈ wch d, 0 < w := by
  have h : ∀ d ∈ List.range 9, ∀ w ∈ wch d, 0 < w := by decide +kernel
  intro d hd
  exact h d (List.mem_range.2 (by omega))
theorem wch_len (d : Nat) : (wch d).length = d + 1 := by simp [wch]
theorem w2u_len (d : Nat) : (w2u d).length = d + 1 := by simp [w2u]
theorem w2d_len (d : Nat) : (w2d d).length = d + 1 := by simp [w2d]
theorem w2u_pos (d : Nat) : ∀ w ∈ w2u d, 0 < w := by
  intro w hw
  simp only [w2u, List.mem_map] at hw
  obtain ⟨j, _, rfl⟩ := hw
  exact Int.pow_pos (by omega)
theorem w2d_pos (d : Nat) : ∀ w ∈ w2d d, 0 < w := by
  intro w hw
  simp only [w2d, List.mem_map] at hw
  obtain ⟨j, _, rfl⟩ := hw
  exact Int.pow_pos (by omega)
theorem mp_idr : ∀ n : Nat, n ≤ 9 → ∀ m : List Int, m.length = n → mp (idr n) m = m := by
  intro n hn m hm
  have : n = 0 ∨ n = 1 ∨ n = 2 ∨ n = 3 ∨ n = 4 ∨ n = 5 ∨ n = 6 ∨ n = 7 ∨ n = 8 ∨ n = 9 := by omega
  match m, this with
  | [], .inl h => subst h; rfl
  | [a], .inr (.inl h) => subst h; simp [mp, idr, dot, List.range_succ_eq_map]
  | [a, b], .inr (.inr (.inl h)) => subst h; simp [mp, idr, dot, List.range_succ_eq_map]
  | [a, b, c], .inr (.inr (.inr (.inl h))) => subst h; simp [mp, idr, dot, List.range_succ_eq_map]
  | [a, b, c, d], .inr (.inr (.inr (.inr (.inl h)))) => subst h; simp [mp, idr, dot, List.range_succ_eq_map]
  | [a, b, c, d, e], .inr (.inr (.inr (.inr (.inr (.inl h))))) => subst h; simp [mp, idr, dot, List.range_succ_eq_map]
  | [a, b, c, d, e, f], .inr (.inr (.inr (.inr (.inr (.inr (.inl h)))))) => subst h; simp [mp, idr, dot, List.range_succ_eq_map]
  | [a, b, c, d, e, f, g], .inr (.inr (.inr (.inr (.inr (.inr (.inr (.inl h))))))) => subst h; simp [mp, idr, dot, List.range_succ_eq_map]
  | [a, b, c, d, e, f, g, i], .inr (.inr (.inr (.inr (.inr (.inr (.inr (.inr (.inl h)))))))) => subst h; simp [mp, idr, dot, List.range_succ_eq_map]
  | [a, b, c, d, e, f, g, i, j], .inr (.inr (.inr (.inr (.inr (.inr (.inr (.inr (.inr h)))))))) => subst h; simp [mp, idr, dot, List.range_succ_eq_map]
theorem hok_at {d : Nat} (h : d ≤ 8) : hok d = true := by
  have a := hok_all
  have : d = 0 ∨ d = 1 ∨ d = 2 ∨ d = 3 ∨ d = 4 ∨ d = 5 ∨ d = 6 ∨ d = 7 ∨ d = 8 := by omega
  rcases this with q | q | q | q | q | q | q | q | q <;> subst q
  · exact a.1
  · exact a.2.1
  · exact a.2.2.1
  · exact a.2.2.2.1
  · exact a.2.2.2.2.1
  · exact a.2.2.2.2.2.1
  · exact a.2.2.2.2.2.2.1
  · exact a.2.2.2.2.2.2.2.1
  · exact a.2.2.2.2.2.2.2.2
/-- changes of sign of the row that is counted -/
def pV (m : List Int) : Nat := vr 0 (pT m)
theorem pV_e {m : List Int} {d : Nat} (hm : m.length = d + 1) (hd : d ≤ 8) : pV m = vr 0 (wgt (wch d) (pT m)) := by
  rw [vr_wgt _ _ _ (by rw [wch_len, pT_len, hm]) (wch_pos d hd)]; rfl
theorem pV_half {m : List Int} {d : Nat} (hm : m.length = d + 1) (hd : d ≤ 8) : pV (pH m) + pV (pS (pH m)) ≤ pV m := by
  have k := hok_at hd
  simp only [hok, Bool.and_eq_true, decide_eq_true_eq] at k
  have id := mp_idr (d + 1) (by omega) m hm
  have e0 : wgt (wch d) (pT m) = mp (vwgt (wch d) (vS (idr (d + 1)).reverse)) m := by
    rw [← mp_wgt, ← mp_S, ← mp_rev, id]; rfl
  have e1 : wgt (wch d) (pT (pH m)) = wgt (w2u d) (lsts (d + 1) (wgt (wch d) (pT m))) := by
    rw [e0, mp_lsts, mp_wgt, ← k.1, ← mp_wgt, ← mp_S, ← mp_rev, ← mp_H, id]; rfl
  have e2 : wgt (wch d) (pT (pS (pH m))) = wgt (w2d d) (hds (d + 1) (wgt (wch d) (pT m))) := by
    rw [e0, mp_hds, mp_wgt, ← k.2, ← mp_wgt, ← mp_S, ← mp_rev, ← mp_S, ← mp_H, id]; rfl
  have hl : (wgt (wch d) (pT m)).length = d + 1 := by
    rw [e0, mp_len]
    have : ∀ d ∈ List.range 9, (vwgt (wch d) (vS (idr (d + 1)).reverse)).length = d + 1 := by decide +kernel
    exact this d (List.mem_range.2 (by omega))
  have lh : ∀ (n : Nat) (b : List Int), (hds n b).length = n := by
    intro n
    induction n with
    | zero => intro b; rfl
    | succ n ih => intro b; show (hds n (adj b)).length + 1 = _; rw [ih]
  have ll : ∀ (n : Nat) (b : List Int), (lsts n b).length = n := by
    intro n
    induction n with
    | zero => intro b; rfl
    | succ n ih => intro b; show (lsts n (adj b) ++ [lst1 b]).length = _; rw [List.length_append, ih]; rfl
  rw [pV_e (by rw [pH_len]; exact hm) hd, pV_e (m := pS (pH m)) (by rw [pS_len, pH_len]; exact hm) hd, pV_e hm hd, e1, e2, vr_wgt _ _ _ (by rw [w2u_len, ll]) (w2u_pos d), vr_wgt _ _ _ (by rw [w2d_len, lh]) (w2d_pos d)]
  have := vr_halves hl
  omega
