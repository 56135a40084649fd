/-! THE SIGNS OF A PRODUCT OF PIECES LEFT AND RIGHT OF A CUT -/
def sgp (τ : Nat → Int) (m : Nat → Nat) : Nat → Int
  | 0 => 1
  | n + 1 => sgp τ m n * τ n ^ m n
theorem imul_pow (a b : Int) : ∀ n : Nat, (a * b) ^ n = a ^ n * b ^ n
  | 0 => by rw [Int.pow_zero, Int.pow_zero, Int.pow_zero]; rfl
  | n + 1 => by rw [Int.pow_succ, Int.pow_succ, Int.pow_succ, imul_pow a b n]; grind
theorem pm_pow {t : Int} (h : t = 1 ∨ t = -1) : ∀ n : Nat, t ^ n = 1 ∨ t ^ n = -1
  | 0 => Or.inl (Int.pow_zero t)
  | n + 1 => by
    rw [Int.pow_succ]
    rcases pm_pow h n with q | q <;> rcases h with w | w <;> rw [q, w] <;> decide
theorem pm_mul {a b : Int} (h : a = 1 ∨ a = -1) (k : b = 1 ∨ b = -1) : a * b = 1 ∨ a * b = -1 := by
  rcases h with q | q <;> rcases k with w | w <;> rw [q, w] <;> decide
theorem gm_one {c : Rat → Int} (hc : cut c) : gml [1] c 1 ∧ gmr [1] c 1 := by
  obtain ⟨⟨u, hu⟩, ⟨v, hv⟩⟩ := hc.2.2.1
  exact ⟨⟨u, hu, fun x _ _ => by rw [pev_c1]; decide⟩, ⟨v, hv, fun x _ _ => by rw [pev_c1]; decide⟩⟩
theorem gm_pow {P : List Int} {c : Rat → Int} {t t' : Int} (hc : cut c) (hl : gml P c t) (hr : gmr P c t') : ∀ k : Nat, ∃ L : List Int, (∀ x : Rat, pev L x = pev P x ^ k) ∧ gml L c (t ^ k) ∧ gmr L c (t' ^ k)
  | 0 => ⟨[1], fun x => by rw [pev_c1, Rat.pow_zero], by rw [Int.pow_zero]; exact (gm_one hc).1, by rw [Int.pow_zero]; exact (gm_one hc).2⟩
  | k + 1 => by
    obtain ⟨L, e, a, b⟩ := gm_pow hc hl hr k
    refine ⟨pmul L P, fun x => by rw [pmul_ev, e x, Rat.pow_succ], ?_, ?_⟩
    · rw [Int.pow_succ]; exact gml_mul hc (fun z => pmul_ev L P z) a hl
    · rw [Int.pow_succ]; exact gmr_mul hc (fun z => pmul_ev L P z) b hr
theorem PRd_germ {p : Nat → List Int} {m : Nat → Nat} {c : Rat → Int} {τ : Nat → Int} (hc : cut c) : ∀ n : Nat, (∀ e, e < n → ∃ t, (t = 1 ∨ t = -1) ∧ gml (p e) c t ∧ gmr (p e) c (t * τ e)) → ∃ (L : List Int) (t : Int), (∀ x : Rat, pev L x = PRd p m x n) ∧ (t = 1 ∨ t = -1) ∧ gml L c t ∧ gmr L c (t * sgp τ m n)
  | 0, _ => ⟨[1], 1, fun x => by rw [pev_c1]; rfl, Or.inl rfl, (gm_one hc).1, (gm_one hc).2⟩
  | n + 1, h => by
    obtain ⟨L, t, e, t1, a, b⟩ := PRd_germ (m := m) hc n (fun e he => h e (by omega))
    obtain ⟨u, u1, ul, ur⟩ := h n (by omega)
    obtain ⟨K, k, kl, kr⟩ := gm_pow hc ul ur (m n)
    refine ⟨pmul L K, t * u ^ m n, fun x => by rw [pmul_ev, e x, k x]; rfl, pm_mul t1 (pm_pow u1 _), gml_mul hc (fun z => pmul_ev L K z) a kl, ?_⟩
    have q := gmr_mul hc (fun z => pmul_ev L K z) b kr
    rw [imul_pow] at q
    have r : t * sgp τ m n * (u ^ m n * τ n ^ m n) = t * u ^ m n * sgp τ m (n + 1) := by
      show _ = t * u ^ m n * (sgp τ m n * τ n ^ m n)
      grind
    rw [← r]
    exact q
/-- a piece keeps its sign at a cut, or turns it -/
theorem gm_tau {P : List Int} {c : Rat → Int} (hc : cut c) (nP : nzp P) : (rtc P c ∧ ∃ t, (t = 1 ∨ t = -1) ∧ gml P c t ∧ gmr P c (t * -1)) ∨ (¬ rtc P c ∧ ∃ t, (t = 1 ∨ t = -1) ∧ gml P c t ∧ gmr P c (t * 1)) := by
  by_cases r : rtc P c
  · obtain ⟨t, h1, h2, h3⟩ := r
    exact Or.inl ⟨⟨t, h1, h2, h3⟩, t, h1, h2, by rw [show t * -1 = -t by omega]; exact h3⟩
  · obtain ⟨⟨t, t1, t2⟩, u, u1, u2⟩ := germ hc P.length P (pdb_len P) nP
    refine Or.inr ⟨r, t, t1, t2, ?_⟩
    have : u = t := by
      refine Classical.byContradiction fun q => r ⟨t, t1, t2, ?_⟩
      have : u = -t := by omega
      rw [← this]; exact u2
    rw [show t * 1 = u by omega]
    exact u2
theorem sgp_one {m : Nat → Nat} {e0 : Nat} : ∀ n : Nat, sgp (fun e => if e = e0 then -1 else 1) m n = if e0 < n then (-1) ^ m e0 else 1
  | 0 => by rw [if_neg (by omega)]; rfl
  | n + 1 => by
    show sgp (fun e => if e = e0 then -1 else 1) m n * (if n = e0 then -1 else 1) ^ m n = _
    rw [sgp_one n]
    by_cases c : n = e0
    · rw [if_neg (by omega), if_pos c, if_pos (by omega), Int.one_mul, c]
    · rw [if_neg c, Int.one_pow, Int.mul_one]
      by_cases d : e0 < n
      · rw [if_pos d, if_pos (by omega)]
      · rw [if_neg d, if_neg (by omega)]
/-- the product's signs on both sides of a cut at which only e0 may turn (e0 = n: none) -/
theorem PRd_turn {p : Nat → List Int} {m : Nat → Nat} {c : Rat → Int} {n e0 : Nat} (hc : cut c) (hn : ∀ e, e < n → nzp (p e)) (h0 : e0 < n → rtc (p e0) c) (h1 : ∀ e, e < n → e ≠ e0 → ¬ rtc (p e) c) : ∃ (L : List Int) (t : Int), (∀ x : Rat, pev L x = PRd p m x n) ∧ (t = 1 ∨ t = -1) ∧ gml L c t ∧ gmr L c (t * if e0 < n then (-1) ^ m e0 else 1) := by
  rw [← sgp_one n]
  refine PRd_germ hc n (fun e he => ?_)
  rcases gm_tau hc (hn e he) with ⟨a, b⟩ | ⟨a, b⟩
  · have : e = e0 := Classical.byContradiction fun q => h1 e he q a
    rw [if_pos this]; exact b
  · have : e ≠ e0 := fun q => a (by rw [q]; exact h0 (by omega))
    rw [if_neg this]; exact b
