/-! isSo OF THE REFERENCE BY VALUE -/
def b2i (b : Bool) : Int := if b = true then 1 else 0
theorem b2i_0 (b : Bool) : b2i b = 0 ↔ b = false := by cases b <;> decide
/-- the stack behind k codes of what was made -/
def stZ9 (t : Nat → Bool) (s : im_S) : Nat → bst
  | 0 => fun _ => false
  | k + 1 => bs1 t (rcd (wga s 586 (k : Int))) (stZ9 t s k)
theorem stZ9_brn {t : Nat → Bool} {s : im_S} : ∀ (k : Nat) (l : List Int), l.length = k → lrw (s.2 586) l → stZ9 t s k = brn t (l.map rcd) (fun _ => false)
  | 0, l, hl, _ => by
    have : l = [] := List.eq_nil_of_length_eq_zero hl
    subst this
    rfl
  | k + 1, l, hl, hr => by
    rcases lst_x l with e | ⟨L, c, e⟩
    · rw [e] at hl; exact absurd hl (by show ¬ (0 = k + 1); omega)
    subst e
    have lL : L.length = k := by rw [List.length_append] at hl; have : L.length + 1 = k + 1 := hl; omega
    have rc : wga s 586 (k : Int) = c := by show s.2 586 ((k : Nat) : Int).toNat = c; rw [Int.toNat_natCast, ← lL]; exact lrw_at hr
    have ih := stZ9_brn (t := t) k L lL (lrw_pre hr)
    show bs1 t (rcd (wga s 586 (k : Int))) (stZ9 t s k) = _
    rw [rc, ih, List.map_append, brn_a]
    rfl
/-- what the reference takes for true at an atom -/
theorem tru_v {w sg : Int} (h : sg = -1 ∨ sg = 0 ∨ sg = 1) : (if ¬ (w = 0) then (if ¬ (w = 1) then (if sg ≤ 0 then (0 : Int) else 1) else (if 0 ≤ sg then 0 else 1)) else (if ¬ (sg = 0) then 0 else 1)) = b2i (decide (sg = due w)) := by
  by_cases a : w = 0
  · have d : due w = 0 := by unfold due; rw [if_neg (fun z => z a)]
    rw [d, if_neg (fun z => z a)]
    rcases h with h | h | h <;> subst h <;> rfl
  · by_cases b : w = 1
    · have d : due w = -1 := by unfold due; rw [if_pos a, if_neg (fun z => z b)]
      rw [d, if_pos a, if_neg (fun z => z b)]
      rcases h with h | h | h <;> subst h <;> rfl
    · have d : due w = 1 := by unfold due; rw [if_pos a, if_pos b]
      rw [d, if_pos a, if_pos b]
      rcases h with h | h | h <;> subst h <;> rfl
theorem isSo_v {s : im_S} {c : Int} {n : Nat} {sg w : Nat → Int} {Q : Int → im_S → Prop} (hc : 0 ≤ c ∧ c ≤ 170) (hn : wgf s 10 = n) (hm : mok s n) (n0 : 1 ≤ n) (hs : ∀ k : Nat, k < n → 0 ≤ wga s 586 (k : Int) → wga s 617 (10 * c + wga s 586 (k : Int)) = sg (wga s 586 (k : Int)).toNat ∧ wga s 585 (wga s 586 (k : Int)) = w (wga s 586 (k : Int)).toNat ∧ (sg (wga s 586 (k : Int)).toNat = -1 ∨ sg (wga s 586 (k : Int)).toNat = 0 ∨ sg (wga s 586 (k : Int)).toNat = 1)) (hQ : ∀ (s' : im_S), rwr [588] s s' → (mdp s n = 1 → wga s' 588 0 = b2i (stZ9 (fun a => decide (sg a = due (w a))) s n 0)) → Q (wga s' 588 0) s') : W_isSo c s Q := by
  unfold W_isSo
  have n5 := hm.1
  obtain ⟨t, ht⟩ : ∃ t : Nat → Bool, t = fun a => decide (sg a = due (w a)) := ⟨_, rfl⟩
  rw [← ht] at hQ
  refine ⟨fun a => rwr [588] s a.2.2 ∧ ∃ k : Nat, k ≤ n ∧ a.2.1 = k ∧ a.1 = mdp s k ∧ ∀ i : Nat, (i : Int) < mdp s k → wga a.2.2 588 (mdp s k - 1 - i) = b2i (stZ9 t s k i), fun a => (n - a.2.1).toNat, ⟨rwr_rfl, 0, by omega, rfl, rfl, fun i hi => by have : (i : Int) < 0 := hi; omega⟩, ?_⟩
  rintro ⟨l2, l3, s2⟩ ⟨i1, k, i2, i3, i4, i5⟩
  dsimp only at i1 i3 i4 i5 ⊢
  subst i3
  subst i4
  have e10 : wgf s2 10 = n := by rw [rwr_f i1]; exact hn
  have e6 : ∀ j : Int, wga s2 586 j = wga s 586 j := fun j => rwr_r i1 _ _ (by decide)
  have e17 : ∀ j : Int, wga s2 617 j = wga s 617 j := fun j => rwr_r i1 _ _ (by decide)
  have e85 : ∀ j : Int, wga s2 585 j = wga s 585 j := fun j => rwr_r i1 _ _ (by decide)
  unfold W_isSo_4 W_isSo_212
  rw [e10, e6]
  refine ⟨fun q => ⟨by decide, ?_⟩, fun q => ?_⟩
  · have ek : k = n := by omega
    subst ek
    refine hQ s2 i1 (fun m1 => ?_)
    have z := i5 0 (by omega)
    rw [m1] at z
    exact z
  have kn : k < n := by omega
  obtain ⟨m1, m2, m3, m4, m5⟩ := hm.2 k kn
  have step : mdp s (k + 1) = mdp s k + (if 0 ≤ wga s 586 (k : Int) then 1 else if wga s 586 (k : Int) = -1 then 0 else -1) := rfl
  have nxt : ((k : Int) + 1) = ((k + 1 : Nat) : Int) := by omega
  have sk : stZ9 t s (k + 1) = bs1 t (rcd (wga s 586 (k : Int))) (stZ9 t s k) := rfl
  have hsk := hs k kn
  generalize wga s 586 (k : Int) = what at *
  generalize mdp s k = D at *
  generalize stZ9 t s k = y at *
  refine ⟨by omega, fun neg => ⟨fun q1 => ?_, fun q1 => ?_⟩, fun pos => ?_⟩
  · rw [if_neg (by omega), if_neg q1] at step
    have m4' := m4 (by omega)
    have r0 := i5 0 (by omega)
    have r1 := i5 1 (by omega)
    rw [show D - 1 - ((0 : Nat) : Int) = D + -1 by omega] at r0
    rw [show D - 1 - ((1 : Nat) : Int) = D + -1 - 1 by omega] at r1
    rw [r0, r1]
    refine ⟨by unfold iR; omega, by unfold iR; omega, fun _ => by omega, fun _ _ => by omega, fun _ => by omega, fun _ _ => by omega, fun v hv => ⟨by omega, fun s3 e3 => ⟨by unfold iR; omega, ⟨by rw [e3]; exact rwr_pa i1 (by decide), k + 1, by omega, nxt, by (try dsimp only); omega, fun i hi => ?_⟩, by (try dsimp only); omega⟩⟩⟩
    try dsimp only
    rw [step, sk, e3]
    have rc : rcd what = if what = -2 then 11 else 12 := by unfold rcd; rw [if_neg (by omega), if_neg q1]
    cases i with
    | zero =>
      rw [show D + -1 - 1 - ((0 : Nat) : Int) = D + -1 - 1 by omega, wg_same, hv]
      by_cases w2 : what = -2
      · rw [if_pos w2] at rc
        have e11 : bs1 t 11 y 0 = (y 1 && y 0) := rfl
        rw [rc, if_neg (fun z => z w2), e11]
        cases y 1 <;> cases y 0 <;> rfl
      · rw [if_neg w2] at rc
        have e12 : bs1 t 12 y 0 = (y 1 || y 0) := rfl
        rw [rc, if_pos w2, e12]
        cases y 1 <;> cases y 0 <;> rfl
    | succ i =>
      have z := i5 (i + 2) (by omega)
      rw [wg_ne (by omega) (by omega) (by omega), show D + -1 - 1 - ((i + 1 : Nat) : Int) = D - 1 - ((i + 2 : Nat) : Int) by omega, z]
      unfold bs1
      by_cases w2 : what = -2
      · rw [if_pos w2] at rc
        rw [rc, if_neg (by decide), if_neg (by decide), if_pos rfl]; rfl
      · rw [if_neg w2] at rc
        rw [rc, if_neg (by decide), if_neg (by decide), if_neg (by decide)]; rfl
  · rw [if_neg (by omega), if_pos q1] at step
    have m3' := m3 q1
    have r0 := i5 0 (by omega)
    rw [show D - 1 - ((0 : Nat) : Int) = D - 1 by omega] at r0
    rw [r0]
    refine ⟨by omega, fun v hv => ⟨by omega, fun s3 e3 => ⟨by unfold iR; omega, ⟨by rw [e3]; exact rwr_pa i1 (by decide), k + 1, by omega, nxt, by (try dsimp only); omega, fun i hi => ?_⟩, by (try dsimp only); omega⟩⟩⟩
    try dsimp only
    have rc : rcd what = 10 := by unfold rcd; rw [if_neg (by omega), if_pos q1]
    rw [step, sk, e3, rc]
    unfold bs1
    rw [if_neg (by decide), if_pos rfl]
    cases i with
    | zero =>
      rw [show D + 0 - 1 - ((0 : Nat) : Int) = D - 1 by omega, wg_same, hv]
      show _ = b2i (!y 0)
      cases y 0 <;> rfl
    | succ i =>
      have z := i5 (i + 1) (by omega)
      rw [wg_ne (by omega) (by omega) (by omega), show D + 0 - 1 - ((i + 1 : Nat) : Int) = D - 1 - ((i + 1 : Nat) : Int) by omega, z]
      rfl
  · rw [if_pos (by omega)] at step
    obtain ⟨h1, h2, h3⟩ := hsk (by omega)
    rw [e17, e85, h1, h2, tru_v h3]
    refine ⟨by unfold iR; omega, by omega, by omega, fun v hv => ⟨by omega, fun s3 e3 => ⟨by unfold iR; omega, by unfold iR; omega, ⟨by rw [e3]; exact rwr_pa i1 (by decide), k + 1, by omega, nxt, by (try dsimp only); omega, fun i hi => ?_⟩, by (try dsimp only); omega⟩⟩⟩
    try dsimp only
    have rc : rcd what = what := by unfold rcd; rw [if_pos (by omega)]
    rw [step, sk, e3, rc]
    unfold bs1
    rw [if_pos (by omega)]
    cases i with
    | zero =>
      rw [show D + 1 - 1 - ((0 : Nat) : Int) = D by omega, wg_same, hv, ht]
      rfl
    | succ i =>
      have z := i5 i (by omega)
      rw [wg_ne (by omega) (by omega) (by omega), show D + 1 - 1 - ((i + 1 : Nat) : Int) = D - 1 - ((i : Nat) : Int) by omega, z]
      rfl
theorem mdp_dp {s : im_S} : ∀ (k : Nat) (l : List Int), l.length = k → lrw (s.2 586) l → (∀ c, c ∈ l → c < 10) → mdp s k = dpz (l.map rcd)
  | 0, l, hl, _, _ => by
    have : l = [] := List.eq_nil_of_length_eq_zero hl
    subst this
    rfl
  | k + 1, l, hl, hr, h10 => by
    rcases lst_x l with e | ⟨L, c, e⟩
    · rw [e] at hl; exact absurd hl (by show ¬ (0 = k + 1); omega)
    subst e
    have lL : L.length = k := by rw [List.length_append] at hl; have : L.length + 1 = k + 1 := hl; omega
    have rc : wga s 586 (k : Int) = c := by show s.2 586 ((k : Nat) : Int).toNat = c; rw [Int.toNat_natCast, ← lL]; exact lrw_at hr
    have ih := mdp_dp (s := s) k L lL (lrw_pre hr) (fun c hc => h10 c (List.mem_append.2 (Or.inl hc)))
    have c10 := h10 c (List.mem_append.2 (Or.inr (List.mem_singleton.2 rfl)))
    show mdp s k + (if 0 ≤ wga s 586 (k : Int) then 1 else if wga s 586 (k : Int) = -1 then 0 else -1) = _
    rw [rc, ih, List.map_append, dpz_a]
    congr 1
    show _ = (if rcd c < 10 then 1 else if rcd c = 10 then 0 else -1) + 0
    unfold rcd
    by_cases a : 0 ≤ c
    · rw [if_pos a, if_pos a, if_pos c10]; rfl
    · rw [if_neg a, if_neg a]
      by_cases b : c = -1
      · rw [if_pos b, if_pos b]; rfl
      · rw [if_neg b, if_neg b]
        by_cases d : c = -2
        · rw [if_pos d]; rfl
        · rw [if_neg d]; rfl
theorem ntk_dp (k : Nat) (B : atz) : dpz (ntk k B).2 = dpz B.2 := by
  unfold ntk psh
  split
  · show dpz (B.2 ++ [10]) = _
    rw [dpz_a]
    show dpz B.2 + (0 + 0) = _
    omega
  · rfl
theorem psh_dp {op : Int} (B : atz) (h : 10 < op) : dpz (psh op B).2 = dpz B.2 - 1 := by
  show dpz (B.2 ++ [op]) = _
  rw [dpz_a]
  show dpz B.2 + ((if op < 10 then 1 else if op = 10 then 0 else -1) + 0) = _
  rw [if_neg (by omega), if_neg (by omega)]
  omega
theorem TZ_dp {tx : Nat → Int} {n : Nat} : ∀ (m : Nat) {c k d j j' : Nat} {A B : atz}, TZ tx n m c k d j A (.inr (j', B)) → ((c = 1 ∨ c = 2 ∨ c = 4) → dpz B.2 = dpz A.2 + 1) ∧ ((c = 3 ∨ c = 5) → dpz B.2 = dpz A.2)
  | 0, _, _, _, _, _, _, _, g => g.elim
  | m + 1, c, k, d, j, j', A, B, g => by
    have ih := fun {c k d j j' : Nat} {A B : atz} (g : TZ tx n m c k d j A (.inr (j', B))) => TZ_dp (tx := tx) (n := n) m g
    have li : ∀ kk rest, (kk = 1 ∨ kk = 2) → (rest = 3 ∨ rest = 5) → zLI (TZ tx n m) kk rest d j A (.inr (j', B)) → dpz B.2 = dpz A.2 + 1 := fun kk rest hk hr g => by
      rcases g with ⟨e, _, q⟩ | ⟨j1, C, g1, g2⟩
      · cases q
      · have x := (ih g1).1 (by omega)
        have y := (ih g2).2 (by omega)
        omega
    have re : ∀ sg op kk rest, (kk = 1 ∨ kk = 2) → (rest = 3 ∨ rest = 5) → 10 < op → zRE tx n (TZ tx n m) sg op kk rest d j A (.inr (j', B)) → dpz B.2 = dpz A.2 := fun sg op kk rest hk hr ho g => by
      rcases g with ⟨_, q⟩ | ⟨_, ⟨e, _, q⟩ | ⟨j1, _, ⟨e, _, q⟩ | ⟨j2, C, g1, g2⟩⟩⟩
      · cases q
        rfl
      · cases q
      · cases q
      · have x := (ih g1).1 (by omega)
        have y := (ih g2).2 (by omega)
        rw [psh_dp C ho] at y
        omega
    have gg : zALL tx n (TZ tx n m) c k d j A (.inr (j', B)) := g
    clear g
    rcases gg with ⟨hc, g⟩ | ⟨hc, g⟩ | ⟨hc, g⟩ | ⟨hc, g⟩ | ⟨hc, g⟩ <;> subst hc
    · refine ⟨fun _ => ?_, fun q => by omega⟩
      rcases g with ⟨_, ⟨_, q⟩ | ⟨_, ⟨e, _, q⟩ | ⟨j1, _, g⟩⟩⟩ | ⟨_, _, r0, g, q⟩ | ⟨_, ⟨_, q⟩ | ⟨d10, ⟨e, _, q⟩ | ⟨j1, _, ⟨e, _, q⟩ | ⟨j2, C, g, ⟨_, q⟩ | ⟨_, q', _, q⟩⟩⟩⟩⟩
      · cases q
      · cases q
      · exact (ih g).1 (Or.inl rfl)
      · cases r0 with
        | inl x => cases q
        | inr z =>
          obtain ⟨j1, C⟩ := z
          have e : B = ntk k C := by cases q; rfl
          obtain ⟨a, b⟩ := zAT_i g
          have h10 := tAT_10 a
          rw [e, ntk_dp, b, dpz_a]
          congr 1
          show (if (A.1.length : Int) < 10 then 1 else if (A.1.length : Int) = 10 then 0 else -1) + 0 = 1
          rw [if_pos (by omega)]; rfl
      · cases q
      · cases q
      · cases q
      · cases q
      · cases q' with
        | inl x => cases q
        | inr z =>
          obtain ⟨j3, u⟩ := z
          have e : B = ntk k C := by cases q; rfl
          rw [e, ntk_dp]
          exact (ih g).1 (by omega)
    · exact ⟨fun _ => li 1 3 (Or.inl rfl) (Or.inl rfl) g, fun q => by omega⟩
    · exact ⟨fun q => by omega, fun _ => re 38 11 1 3 (Or.inl rfl) (Or.inl rfl) (by decide) g⟩
    · exact ⟨fun _ => li 2 5 (Or.inr rfl) (Or.inr rfl) g, fun q => by omega⟩
    · exact ⟨fun q => by omega, fun _ => re 124 12 2 5 (Or.inr rfl) (Or.inr rfl) (by decide) g⟩
theorem RDz_dp {tx : Nat → Int} {n j : Nat} {A : atz} (h : RDz tx n (.inr (j, A))) : dpz A.2 = 1 := by
  obtain ⟨q, _, ⟨e, _, k⟩ | ⟨j1, r4, _, ⟨m, g⟩, k⟩⟩ := h
  · cases k
  · cases r4 with
    | inl e => cases k
    | inr z =>
      obtain ⟨j2, B⟩ := z
      rcases k with ⟨_, k⟩ | ⟨_, k⟩
      · cases k
        have := (TZ_dp m g).1 (by omega)
        rw [this]
        rfl
      · cases k
