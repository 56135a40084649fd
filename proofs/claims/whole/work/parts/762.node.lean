/-! THE NODES OF THE PARTER'S TREE: (t, c) is the interval c .. c + 1 over 2 ^ t of -1 .. 1 -/
def nM (a : List Int) : Nat → Int → List Int
  | 0, c => if c ≤ -1 then a else if c = 0 then pS a else pS (pS a)
  | t + 1, c => if c % 2 = 0 then pH (nM a t (c / 2)) else pS (pH (nM a t (c / 2)))
theorem nM_len (a : List Int) : ∀ (t : Nat) (c : Int), (nM a t c).length = a.length
  | 0, c => by unfold nM; split; · rfl
               split
               · rw [pS_len]
               · rw [pS_len, pS_len]
  | t + 1, c => by
    unfold nM
    split
    · rw [pH_len, nM_len a t]
    · rw [pS_len, pH_len, nM_len a t]
theorem nM_e (a : List Int) (t : Nat) (c : Int) : nM a (t + 1) (2 * c) = pH (nM a t c) := by
  rw [nM, if_pos (by omega), show 2 * c / 2 = c by omega]
theorem nM_o (a : List Int) (t : Nat) (c : Int) : nM a (t + 1) (2 * c + 1) = pS (pH (nM a t c)) := by
  rw [nM, if_neg (by omega), show (2 * c + 1) / 2 = c by omega]
theorem par (c : Int) : ∃ k, c = 2 * k ∨ c = 2 * k + 1 := ⟨c / 2, by omega⟩
theorem p2s (t : Nat) : (2 : Int) ^ (t + 1) = 2 * 2 ^ t := by rw [Int.pow_succ, Int.mul_comm]
theorem p2p (t : Nat) : (0 : Int) < 2 ^ t := Int.pow_pos (by omega)
theorem nM_S (a : List Int) : ∀ (t : Nat) (c : Int), -(2 ^ t) ≤ c → c < 2 ^ t → pS (nM a t c) = nM a t (c + 1)
  | 0, c, h1, h2 => by
    have : c = -1 ∨ c = 0 := by have e : (2 : Int) ^ 0 = 1 := rfl; omega
    rcases this with q | q <;> subst q <;> rfl
  | t + 1, c, h1, h2 => by
    rw [p2s] at h1 h2
    obtain ⟨k, q | q⟩ := par c
    · subst q
      rw [nM_e, nM_o]
    · subst q
      rw [nM_o, pSSH, nM_S a t k (by omega) (by omega), show 2 * k + 1 + 1 = 2 * (k + 1) by omega, nM_e]
def vN (a : List Int) (t : Nat) (c : Int) : Nat := pV (nM a t c)
theorem vN_half {a : List Int} {d : Nat} (ha : a.length = d + 1) (hd : d ≤ 8) (t : Nat) (c : Int) : vN a (t + 1) (2 * c) + vN a (t + 1) (2 * c + 1) ≤ vN a t c := by
  rw [vN, vN, nM_e, nM_o]
  exact pV_half (by rw [nM_len]; exact ha) hd
theorem vN_two {a : List Int} {d : Nat} (ha : a.length = d + 1) (hd : d ≤ 8) : vN a 0 (-1) + vN a 0 0 ≤ d := pV_two ha hd
/-- changes left of a place -/
def LSv (a : List Int) : Nat → Int → Nat
  | 0, c => if c ≤ -1 then 0 else if c = 0 then vN a 0 (-1) else vN a 0 (-1) + vN a 0 0
  | t + 1, c => if c % 2 = 0 then LSv a t (c / 2) else LSv a t (c / 2) + vN a (t + 1) (c - 1)
theorem LSv_e (a : List Int) (t : Nat) (c : Int) : LSv a (t + 1) (2 * c) = LSv a t c := by
  rw [LSv, if_pos (by omega), show 2 * c / 2 = c by omega]
theorem LSv_o (a : List Int) (t : Nat) (c : Int) : LSv a (t + 1) (2 * c + 1) = LSv a t c + vN a (t + 1) (2 * c) := by
  rw [LSv, if_neg (by omega), show (2 * c + 1) / 2 = c by omega, show 2 * c + 1 - 1 = 2 * c by omega]
theorem LSv_step {a : List Int} {d : Nat} (ha : a.length = d + 1) (hd : d ≤ 8) : ∀ (t : Nat) (c : Int), -(2 ^ t) ≤ c → c < 2 ^ t → LSv a t c + vN a t c ≤ LSv a t (c + 1)
  | 0, c, h1, h2 => by
    have : c = -1 ∨ c = 0 := by have e : (2 : Int) ^ 0 = 1 := rfl; omega
    rcases this with q | q <;> subst q
    · show 0 + _ ≤ vN a 0 (-1); omega
    · exact Nat.le_refl _
  | t + 1, c, h1, h2 => by
    rw [p2s] at h1 h2
    obtain ⟨k, q | q⟩ := par c
    · subst q; rw [LSv_e, LSv_o]; exact Nat.le_refl _
    · subst q
      have := LSv_step ha hd t k (by omega) (by omega)
      have := vN_half ha hd t k
      rw [LSv_o, show 2 * k + 1 + 1 = 2 * (k + 1) by omega, LSv_e]
      omega
theorem LSv_le {a : List Int} {d : Nat} (ha : a.length = d + 1) (hd : d ≤ 8) : ∀ (t : Nat) (c : Int), -(2 ^ t) ≤ c → c ≤ 2 ^ t → LSv a t c ≤ d
  | 0, c, h1, h2 => by
    have := vN_two ha hd
    rw [LSv]
    split
    · omega
    · split <;> omega
  | t + 1, c, h1, h2 => by
    rw [p2s] at h1 h2
    obtain ⟨k, q | q⟩ := par c
    · subst q; rw [LSv_e]; exact LSv_le ha hd t k (by omega) (by omega)
    · subst q
      have := LSv_step ha hd t k (by omega) (by omega)
      have := vN_half ha hd t k
      have := LSv_le ha hd t (k + 1) (by omega) (by omega)
      rw [LSv_o]; omega
/-- changes right of a place -/
def RVv (a : List Int) : Nat → Int → Nat
  | 0, c => if c ≤ -1 then vN a 0 (-1) + vN a 0 0 else if c = 0 then vN a 0 0 else 0
  | t + 1, c => if c % 2 = 0 then RVv a t (c / 2) else RVv a t (c / 2 + 1) + vN a (t + 1) c
theorem RVv_e (a : List Int) (t : Nat) (c : Int) : RVv a (t + 1) (2 * c) = RVv a t c := by
  rw [RVv, if_pos (by omega), show 2 * c / 2 = c by omega]
theorem RVv_o (a : List Int) (t : Nat) (c : Int) : RVv a (t + 1) (2 * c + 1) = RVv a t (c + 1) + vN a (t + 1) (2 * c + 1) := by
  rw [RVv, if_neg (by omega), show (2 * c + 1) / 2 = c by omega]
theorem RVv_step {a : List Int} {d : Nat} (ha : a.length = d + 1) (hd : d ≤ 8) : ∀ (t : Nat) (c : Int), -(2 ^ t) ≤ c → c < 2 ^ t → vN a t c + RVv a t (c + 1) ≤ RVv a t c
  | 0, c, h1, h2 => by
    have : c = -1 ∨ c = 0 := by have e : (2 : Int) ^ 0 = 1 := rfl; omega
    rcases this with q | q <;> subst q
    · exact Nat.le_refl _
    · show _ + 0 ≤ vN a 0 0; omega
  | t + 1, c, h1, h2 => by
    rw [p2s] at h1 h2
    obtain ⟨k, q | q⟩ := par c
    · subst q
      have := RVv_step ha hd t k (by omega) (by omega)
      have := vN_half ha hd t k
      rw [RVv_e, RVv_o]; omega
    · subst q
      rw [RVv_o, show 2 * k + 1 + 1 = 2 * (k + 1) by omega, RVv_e]
      omega
theorem RVv_le {a : List Int} {d : Nat} (ha : a.length = d + 1) (hd : d ≤ 8) : ∀ (t : Nat) (c : Int), -(2 ^ t) ≤ c → c ≤ 2 ^ t → RVv a t c ≤ d
  | 0, c, h1, h2 => by
    have := vN_two ha hd
    rw [RVv]
    split
    · omega
    · split <;> omega
  | t + 1, c, h1, h2 => by
    rw [p2s] at h1 h2
    obtain ⟨k, q | q⟩ := par c
    · subst q; rw [RVv_e]; exact RVv_le ha hd t k (by omega) (by omega)
    · subst q
      have := RVv_step ha hd t k (by omega) (by omega)
      have := vN_half ha hd t k
      have := RVv_le ha hd t k (by omega) (by omega)
      rw [RVv_o]; omega
/-- how many nodes may still come right of a place; D the finest -/
def PCv (D : Nat) (a : List Int) : Nat → Int → Nat
  | 0, c => if c ≤ -1 then (1 + D * vN a 0 (-1)) + (1 + D * vN a 0 0) else if c = 0 then 1 + D * vN a 0 0 else 0
  | t + 1, c => if c % 2 = 0 then PCv D a t (c / 2) else PCv D a t (c / 2 + 1) + (1 + (D - (t + 1)) * vN a (t + 1) c)
theorem PCv_e (D : Nat) (a : List Int) (t : Nat) (c : Int) : PCv D a (t + 1) (2 * c) = PCv D a t c := by
  rw [PCv, if_pos (by omega), show 2 * c / 2 = c by omega]
theorem PCv_o (D : Nat) (a : List Int) (t : Nat) (c : Int) : PCv D a (t + 1) (2 * c + 1) = PCv D a t (c + 1) + (1 + (D - (t + 1)) * vN a (t + 1) (2 * c + 1)) := by
  rw [PCv, if_neg (by omega), show (2 * c + 1) / 2 = c by omega]
theorem PCv_le (D : Nat) (a : List Int) : ∀ (t : Nat) (c : Int), PCv D a t c ≤ t + 2 + D * RVv a t c
  | 0, c => by
    rw [PCv, RVv]
    split
    · rw [Nat.mul_add]; omega
    · split <;> omega
  | t + 1, c => by
    obtain ⟨k, q | q⟩ := par c
    · subst q; rw [PCv_e, RVv_e]; have := PCv_le D a t k; omega
    · subst q
      rw [PCv_o, RVv_o, Nat.mul_add]
      have := PCv_le D a t (k + 1)
      have : (D - (t + 1)) * vN a (t + 1) (2 * k + 1) ≤ D * vN a (t + 1) (2 * k + 1) := Nat.mul_le_mul_right _ (by omega)
      omega
/-- how many nodes may still come, from a node on -/
def PNv (D : Nat) (a : List Int) (t : Nat) (c : Int) : Nat := 1 + (D - t) * vN a t c + PCv D a t (c + 1)
theorem PNv_half {D : Nat} {a : List Int} {d : Nat} (ha : a.length = d + 1) (hd : d ≤ 8) {t : Nat} {c : Int} (ht : t < D) (h2 : 2 ≤ vN a t c) : PNv D a (t + 1) (2 * c) + 1 ≤ PNv D a t c := by
  rw [PNv, PNv, PCv_o]
  have h := vN_half ha hd t c
  obtain ⟨n, hn⟩ : ∃ n, D - t = n + 1 := ⟨D - t - 1, by omega⟩
  rw [show D - (t + 1) = n by omega, hn]
  have e1 : n * vN a (t + 1) (2 * c) + n * vN a (t + 1) (2 * c + 1) ≤ n * vN a t c := by
    rw [← Nat.mul_add]; exact Nat.mul_le_mul_left _ h
  have e2 : (n + 1) * vN a t c = n * vN a t c + vN a t c := Nat.succ_mul _ _
  omega
theorem PNv_odd (D : Nat) (a : List Int) (t : Nat) (c : Int) : PNv D a (t + 1) (2 * c + 1) = PCv D a (t + 1) (2 * c + 1) := by
  rw [PNv, show 2 * c + 1 + 1 = 2 * (c + 1) by omega, PCv_e, PCv_o]; omega
theorem PNv_zero (D : Nat) (a : List Int) {c : Int} (h : c = -1 ∨ c = 0) : PNv D a 0 c = PCv D a 0 c := by
  rcases h with q | q <;> subst q
  · show 1 + (D - 0) * vN a 0 (-1) + (1 + D * vN a 0 0) = (1 + D * vN a 0 (-1)) + (1 + D * vN a 0 0)
    rw [Nat.sub_zero]
  · show 1 + (D - 0) * vN a 0 0 + 0 = 1 + D * vN a 0 0
    rw [Nat.sub_zero, Nat.add_zero]
theorem PNv_le {D : Nat} {a : List Int} {d : Nat} (ha : a.length = d + 1) (hd : d ≤ 8) {t : Nat} {c : Int} (h1 : -(2 ^ t) ≤ c) (h2 : c < 2 ^ t) : PNv D a t c ≤ t + 3 + D * 8 := by
  rw [PNv]
  have := PCv_le D a t (c + 1)
  have e := RVv_step ha hd t c h1 h2
  have e2 := RVv_le ha hd t c h1 (by omega)
  have e3 : (D - t) * vN a t c ≤ D * vN a t c := Nat.mul_le_mul_right _ (by omega)
  have e4 : D * vN a t c + D * RVv a t (c + 1) ≤ D * 8 := by
    rw [← Nat.mul_add]; exact Nat.mul_le_mul_left _ (by omega)
  omega
/-! a linear factor taken out -/
theorem nM_lml (al be : Int) (a : List Int) (h : a ≠ []) : ∀ (t : Nat) (c : Int), -(2 ^ t) ≤ c → c ≤ 2 ^ t → nM (lml al be a) t c = lml (2 ^ t * (al + be) + be * c) be (nM a t c)
  | 0, c, h1, h2 => by
    have : c = -1 ∨ c = 0 ∨ c = 1 := by have e : (2 : Int) ^ 0 = 1 := rfl; omega
    have e : (2 : Int) ^ 0 = 1 := rfl
    rcases this with q | q | q <;> subst q
    · rw [e, show 1 * (al + be) + be * -1 = al by omega]; rfl
    · rw [e, show 1 * (al + be) + be * 0 = al + be by omega]; exact pS_lml al be a
    · rw [e, show 1 * (al + be) + be * 1 = al + be + be by omega]
      show pS (pS (lml al be a)) = lml (al + be + be) be (pS (pS a))
      rw [pS_lml, pS_lml]
  | t + 1, c, h1, h2 => by
    rw [p2s] at h1 h2
    obtain ⟨k, q | q⟩ := par c
    · subst q
      have ne : nM a t k ≠ [] := fun z => h (List.length_eq_zero_iff.1 (by rw [← nM_len a t k, z]; rfl))
      rw [nM_e, nM_e, nM_lml al be a h t k (by omega) (by omega), pH_lml _ _ _ ne, p2s]
      congr 1
      grind
    · subst q
      have ne : nM a t k ≠ [] := fun z => h (List.length_eq_zero_iff.1 (by rw [← nM_len a t k, z]; rfl))
      rw [nM_o, nM_o, nM_lml al be a h t k (by omega) (by omega), pH_lml _ _ _ ne, pS_lml, p2s]
      congr 1
      grind
/-- left of the zero that is taken out the changes don't fall -/
theorem LSv_drop {al be : Int} {a : List Int} (h : a ≠ []) (hb : 0 < be) : ∀ (t : Nat) (c : Int), -(2 ^ t) ≤ c → c ≤ 2 ^ t → 2 ^ t * (al + be) + be * c ≤ 0 → LSv (lml al be a) t c ≤ LSv a t c := by
  have one : ∀ (t : Nat) (c : Int), -(2 ^ t) ≤ c → c < 2 ^ t → 2 ^ t * (al + be) + be * (c + 1) ≤ 0 → vN (lml al be a) t c ≤ vN a t c := by
    intro t c h1 h2 hz
    rw [vN, nM_lml al be a h t c h1 (by omega)]
    rw [Int.mul_add be, Int.mul_one] at hz
    exact pV_lml _ (Or.inr ⟨by omega, by omega⟩)
  intro t
  induction t with
  | zero =>
    intro c h1 h2 hz
    have e : (2 : Int) ^ 0 = 1 := rfl
    rw [e] at h1 h2 hz
    have : c = -1 ∨ c = 0 ∨ c = 1 := by omega
    rcases this with q | q | q <;> subst q
    · exact Nat.le_refl _
    · exact one 0 (-1) (by omega) (by omega) (by rw [e]; exact hz)
    · have x1 := one 0 (-1) (by omega) (by omega) (by rw [e]; omega)
      have x2 := one 0 0 (by omega) (by omega) (by rw [e]; omega)
      show vN _ 0 (-1) + vN _ 0 0 ≤ vN a 0 (-1) + vN a 0 0
      omega
  | succ t ih =>
    intro c h1 h2 hz
    have h1' := h1
    have h2' := h2
    rw [p2s] at h1' h2'
    obtain ⟨k, q | q⟩ := par c
    · subst q
      rw [LSv_e, LSv_e]
      refine ih k (by omega) (by omega) ?_
      rw [p2s] at hz
      have e : 2 * 2 ^ t * (al + be) + be * (2 * k) = 2 * (2 ^ t * (al + be) + be * k) := by grind
      omega
    · subst q
      rw [LSv_o, LSv_o]
      have x2 := one (t + 1) (2 * k) (by omega) (by omega) hz
      have x1 := ih k (by omega) (by omega) (by
        rw [p2s] at hz
        have e : 2 * 2 ^ t * (al + be) + be * (2 * k + 1) = 2 * (2 ^ t * (al + be) + be * k) + be := by grind
        omega)
      omega
