/-! POLYNOMIALS MODULO p: identities with a multiple of p -/
/-- A is in the ideal of F and H, modulo p -/
def Inc (p : Int) (F H A : List Int) : Prop := ∃ U V Z : List Int, ∀ x : Rat, pev A x = pev U x * pev F x + pev V x * pev H x + (p : Rat) * pev Z x
/-- F is in the ideal of A and B, modulo p, times a unit -/
def Gen (p : Int) (A B F : List Int) : Prop := ∃ (l : Int) (U V Z : List Int), ¬ p ∣ l ∧ ∀ x : Rat, (l : Rat) * pev F x = pev U x * pev A x + pev V x * pev B x + (p : Rat) * pev Z x
theorem ev_c (c : Int) (x : Rat) : pev [c] x = (c : Rat) := by
  show (c : Rat) + x * pev [] x = _
  show (c : Rat) + x * 0 = _
  grind
theorem ev_n (x : Rat) : pev [] x = 0 := rfl
theorem Inc_l (p : Int) (F H : List Int) : Inc p F H F := ⟨[1], [], [], fun x => by rw [ev_c, ev_n, rat_i1]; grind⟩
theorem Inc_r (p : Int) (F H : List Int) : Inc p F H H := ⟨[], [1], [], fun x => by rw [ev_c, ev_n, rat_i1]; grind⟩
theorem Gen_l {p : Int} (h : ¬ p ∣ 1) (A B : List Int) : Gen p A B A := ⟨1, [1], [], [], h, fun x => by rw [ev_c, ev_n, rat_i1]; grind⟩
theorem Gen_r {p : Int} (h : ¬ p ∣ 1) (A B : List Int) : Gen p A B B := ⟨1, [], [1], [], h, fun x => by rw [ev_c, ev_n, rat_i1]; grind⟩
theorem Gen_sw {p : Int} {A B F : List Int} (h : Gen p A B F) : Gen p B A F := by
  obtain ⟨l, U, V, Z, hl, e⟩ := h
  exact ⟨l, V, U, Z, hl, fun x => by rw [e x]; grind⟩
theorem Inc_co {p : Int} {F H A A' : List Int} (h : Inc p F H A) (e : ∀ x : Rat, pev A' x = pev A x) : Inc p F H A' := by
  obtain ⟨U, V, Z, k⟩ := h
  exact ⟨U, V, Z, fun x => by rw [e x, k x]⟩
theorem Gen_co {p : Int} {A A' B F : List Int} (h : Gen p A B F) (e : ∀ x : Rat, pev A' x = pev A x) : Gen p A' B F := by
  obtain ⟨l, U, V, Z, hl, k⟩ := h
  exact ⟨l, U, V, Z, hl, fun x => by rw [e x]; exact k x⟩
/-- one step: A' = l A - q B, modulo p -/
theorem Inc_st {p l : Int} {F H A B A' q Z : List Int} (e : ∀ x : Rat, pev A' x = (l : Rat) * pev A x - pev q x * pev B x + (p : Rat) * pev Z x) (hA : Inc p F H A) (hB : Inc p F H B) : Inc p F H A' := by
  obtain ⟨U, V, Z1, k⟩ := hA
  obtain ⟨U2, V2, Z2, k2⟩ := hB
  refine ⟨padd (psm l U) (psm (-1) (pmul q U2)), padd (psm l V) (psm (-1) (pmul q V2)), padd (padd (psm l Z1) (psm (-1) (pmul q Z2))) Z, fun x => ?_⟩
  simp only [padd_ev, psm_ev, pmul_ev]
  rw [e x, k x, k2 x, show ((-1 : Int) : Rat) = -1 from rfl]
  grind
theorem Gen_st {p l : Int} (hp : ∀ a b : Int, p ∣ a * b → p ∣ a ∨ p ∣ b) {F A B A' q Z : List Int} (hl : ¬ p ∣ l) (e : ∀ x : Rat, pev A' x = (l : Rat) * pev A x - pev q x * pev B x + (p : Rat) * pev Z x) (hF : Gen p A B F) : Gen p A' B F := by
  obtain ⟨m, U, V, Z1, hm, k⟩ := hF
  refine ⟨l * m, U, padd (psm l V) (pmul U q), padd (psm l Z1) (psm (-1) (pmul U Z)), fun d => ?_, fun x => ?_⟩
  · rcases hp l m d with w | w
    · exact hl w
    · exact hm w
  · simp only [padd_ev, psm_ev, pmul_ev]
    rw [e x, Rat.intCast_mul, show ((-1 : Int) : Rat) = -1 from rfl]
    have := k x
    have e3 : (l : Rat) * (m : Rat) * pev F x = (l : Rat) * ((m : Rat) * pev F x) := by grind
    rw [e3, this]
    grind
/-- a row of nine as a polynomial -/
abbrev rwp (s : im_S) (c : Nat) : List Int := pmk 9 (s.2 c)
def inr9 (p : Int) (f : Nat → Int) : Prop := ∀ k, k < 9 → 0 ≤ f k ∧ f k < p
/-- c x^i -/
def mono (c : Int) (i : Nat) : List Int := pmk (i + 1) (fun k => if k = i then c else 0)
theorem mono_gt (c : Int) (i k : Nat) : pgt (mono c i) k = if k = i then c else 0 := by
  unfold mono
  rw [pmk_gt]
  by_cases h : k = i
  · rw [if_pos (by omega)]
  · rw [if_neg h]
    split <;> rfl
theorem mono_ev (c : Int) (i : Nat) (x : Rat) : pev (mono c i) x = (c : Rat) * x ^ i := by
  have e := pev_shp (P := [c]) (i := i) (n := i + 1) (by simp) x
  rw [ev_c] at e
  rw [show (c : Rat) * x ^ i = x ^ i * (c : Rat) by grind, ← e]
  refine pev_eq (fun k => ?_) x
  rw [mono_gt, pmk_gt]
  by_cases h : k = i
  · subst h
    rw [if_pos rfl, if_pos (by omega), if_neg (by omega), show k - k = 0 by omega]
    rfl
  · rw [if_neg h]
    by_cases h2 : k < i + 1
    · rw [if_pos h2, if_pos (by omega)]
    · rw [if_neg h2]
/-- what one round of eliminate makes of the row, as polynomials -/
theorem el_ev {p l h : Int} {sh : Nat} {f g f' : Nat → Int} (hg : ∀ k, 9 ≤ k + sh → k < 9 → g k = 0) (e : ∀ k, k < 9 → p ∣ f' k - (l * f k - (if k < sh then 0 else h * g (k - sh)))) : ∃ Z : List Int, ∀ x : Rat, pev (pmk 9 f') x = (l : Rat) * pev (pmk 9 f) x - pev (mono h sh) x * pev (pmk 9 g) x + (p : Rat) * pev Z x := by
  refine ⟨pmk 9 (fun k => (f' k - (l * f k - (if k < sh then 0 else h * g (k - sh)))) / p), fun x => ?_⟩
  have sp : pev (pmk (sh + 9) (fun k => if k < sh then 0 else pgt (pmk 9 g) (k - sh))) x = x ^ sh * pev (pmk 9 g) x := pev_shp (P := pmk 9 g) (by rw [pmk_len]; omega) x
  have key : pev (padd (pmk 9 f') (psm h (pmk (sh + 9) (fun k => if k < sh then 0 else pgt (pmk 9 g) (k - sh))))) x = pev (padd (psm l (pmk 9 f)) (psm p (pmk 9 (fun k => (f' k - (l * f k - (if k < sh then 0 else h * g (k - sh)))) / p)))) x := by
    refine pev_eq (fun k => ?_) x
    simp only [padd_gt, psm_gt, pmk_gt]
    by_cases k9 : k < 9
    · rw [if_pos k9, if_pos k9, if_pos k9, if_pos (show k < sh + 9 by omega)]
      have dd := Int.mul_ediv_cancel' (e k k9)
      rw [dd]
      by_cases ks : k < sh
      · rw [if_pos ks, if_pos ks]; omega
      · rw [if_neg ks, if_neg ks, if_pos (show k - sh < 9 by omega)]; omega
    · rw [if_neg k9, if_neg k9, if_neg k9]
      by_cases k2 : k < sh + 9
      · rw [if_pos k2]
        by_cases ks : k < sh
        · rw [if_pos ks]; omega
        · rw [if_neg ks, if_pos (show k - sh < 9 by omega), hg (k - sh) (by omega) (by omega)]; omega
      · rw [if_neg k2]; omega
  simp only [padd_ev, psm_ev] at key
  rw [sp] at key
  rw [mono_ev]
  grind
