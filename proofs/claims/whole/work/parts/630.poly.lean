/-! THE REFERENCE'S POLYNOMIALS: rows 598 (degree), 599 (part), field 28 (how many) -/
def pgt : List Int → Nat → Int
  | [], _ => 0
  | a :: _, 0 => a
  | _ :: p, k + 1 => pgt p k
def pmk : Nat → (Nat → Int) → List Int
  | 0, _ => []
  | n + 1, f => f 0 :: pmk n (fun k => f (k + 1))
theorem pmk_len : ∀ (n : Nat) (f : Nat → Int), (pmk n f).length = n
  | 0, _ => rfl
  | n + 1, f => by
    show (pmk n (fun k => f (k + 1))).length + 1 = n + 1
    rw [pmk_len n]
theorem pmk_gt : ∀ (n : Nat) (f : Nat → Int) (k : Nat), pgt (pmk n f) k = if k < n then f k else 0
  | 0, f, k => by rw [if_neg (Nat.not_lt_zero k)]; rfl
  | n + 1, f, 0 => by rw [if_pos (by omega)]; rfl
  | n + 1, f, k + 1 => by
    show pgt (pmk n (fun k => f (k + 1))) k = _
    rw [pmk_gt n]
    by_cases h : k < n
    · rw [if_pos h, if_pos (by omega)]
    · rw [if_neg h, if_neg (by omega)]
theorem pgt_hi : ∀ (P : List Int) (k : Nat), P.length ≤ k → pgt P k = 0
  | [], _, _ => rfl
  | _ :: p, 0, h => by simp at h
  | _ :: p, k + 1, h => pgt_hi p k (by simp at h; omega)
theorem pmk_co : ∀ {n : Nat} {f g : Nat → Int}, (∀ k, k < n → f k = g k) → pmk n f = pmk n g
  | 0, _, _, _ => rfl
  | n + 1, f, g, h => by
    show f 0 :: pmk n (fun k => f (k + 1)) = g 0 :: pmk n (fun k => g (k + 1))
    rw [h 0 (by omega), pmk_co (n := n) (fun k hk => h (k + 1) (by omega))]
theorem pmk_self : ∀ P : List Int, pmk P.length (pgt P) = P
  | [] => rfl
  | a :: p => by
    show pgt (a :: p) 0 :: pmk p.length (fun k => pgt (a :: p) (k + 1)) = a :: p
    rw [show (fun k => pgt (a :: p) (k + 1)) = pgt p from rfl, pmk_self p]
    rfl
/-- all factors are of at most n limbs -/
def plb (P : List Int) (n : Nat) : Prop := ∀ k, lim (pgt P k) ≤ n
/-- a polynomial in its place -/
def pol (s : im_S) (f : Int) (P : List Int) : Prop := 0 ≤ f ∧ f < wgf s 28 ∧ wgf s 28 ≤ 1200 ∧ P.length ≤ 9 ∧ wga s 598 f = (P.length : Int) - 1 ∧ ∀ k : Nat, k < P.length → nm s (wga s 599 (9 * f + k)) (pgt P k)
/-- a step: memory from the top on, polynomials from their number on -/
def ps (s s' : im_S) : Prop := (∀ c f : Nat, ¬ (c = 582 ∧ (f = 24 ∨ f = 25 ∨ f = 28)) → s'.1 c f = s.1 c f) ∧ (∀ c i : Nat, ¬ (c = 597 ∧ wgf s 24 ≤ (i : Int) ∧ (i : Int) < 684000) → ¬ (c = 598 ∧ wgf s 28 ≤ (i : Int)) → ¬ (c = 599 ∧ 9 * wgf s 28 ≤ (i : Int)) → s'.2 c i = s.2 c i) ∧ wgf s 24 ≤ wgf s' 24 ∧ wgf s 28 ≤ wgf s' 28
/-- a step on one polynomial -/
def pc (f : Int) (s s' : im_S) : Prop := (∀ c g : Nat, ¬ (c = 582 ∧ (g = 24 ∨ g = 25)) → s'.1 c g = s.1 c g) ∧ (∀ c i : Nat, ¬ (c = 597 ∧ wgf s 24 ≤ (i : Int) ∧ (i : Int) < 684000) → ¬ (c = 598 ∧ (i : Int) = f) → ¬ (c = 599 ∧ 9 * f ≤ (i : Int) ∧ (i : Int) < 9 * f + 9) → s'.2 c i = s.2 c i) ∧ wgf s 24 ≤ wgf s' 24
theorem ps_rfl {s : im_S} : ps s s := ⟨fun _ _ _ => rfl, fun _ _ _ _ _ => rfl, Int.le_refl _, Int.le_refl _⟩
theorem ps_tr {s s1 s2 : im_S} (h1 : ps s s1) (h2 : ps s1 s2) : ps s s2 := by
  have a := h1.2.2.1
  have b := h1.2.2.2
  refine ⟨fun c f h => (h2.1 c f h).trans (h1.1 c f h), fun c i q1 q2 q3 => (h2.2.1 c i (fun z => q1 ⟨z.1, by omega, z.2.2⟩) (fun z => q2 ⟨z.1, by omega⟩) (fun z => q3 ⟨z.1, by omega⟩)).trans (h1.2.1 c i q1 q2 q3), Int.le_trans a h2.2.2.1, Int.le_trans b h2.2.2.2⟩
theorem ps_m {s s' : im_S} {i : Int} (h : ps s s') (h0 : 0 ≤ i) (h1 : i < wgf s 24 ∨ 684000 ≤ i) : wga s' 597 i = wga s 597 i := h.2.1 597 i.toNat (by omega) (by omega) (by omega)
theorem ps_d {s s' : im_S} {i : Int} (h : ps s s') (h0 : 0 ≤ i) (h1 : i < wgf s 28) : wga s' 598 i = wga s 598 i := h.2.1 598 i.toNat (by omega) (by omega) (by omega)
theorem ps_p {s s' : im_S} {i : Int} (h : ps s s') (h0 : 0 ≤ i) (h1 : i < 9 * wgf s 28) : wga s' 599 i = wga s 599 i := h.2.1 599 i.toNat (by omega) (by omega) (by omega)
theorem ps_r {s s' : im_S} {c : Nat} {i : Int} (h : ps s s') (h1 : c ≠ 597) (h2 : c ≠ 598) (h3 : c ≠ 599) : wga s' c i = wga s c i := h.2.1 c i.toNat (fun z => h1 z.1) (fun z => h2 z.1) (fun z => h3 z.1)
theorem ps_f {s s' : im_S} {f : Nat} (h : ps s s') (h1 : f ≠ 24) (h2 : f ≠ 25) (h3 : f ≠ 28) : wgf s' f = wgf s f := h.1 582 f (fun e => by rcases e.2 with q | q | q <;> contradiction)
theorem ps_nm {s s' : im_S} {x X : Int} (h : ps s s') (hn : nm s x X) : nm s' x X := by
  have a := hn.1.1
  have b := hn.2
  have c := h.2.2.1
  exact ⟨num_co hn.1 hn.1.1 hn.1.2.1 (fun k q1 q2 => ps_m h (by omega) (by omega)), by omega⟩
theorem ps_pol {s s' : im_S} {f : Int} {P : List Int} (h : ps s s') (h2 : wgf s' 28 ≤ 1200) (hp : pol s f P) : pol s' f P := by
  obtain ⟨a, b, c, d, e, g⟩ := hp
  have z := h.2.2.2
  refine ⟨a, by omega, h2, d, by rw [ps_d h a b]; exact e, fun k hk => ?_⟩
  rw [ps_p h (by omega) (by omega)]
  exact ps_nm h (g k hk)
theorem st_ps {s s' : im_S} (h : st s s') : ps s s' := by
  refine ⟨fun c f q => h.1.1 c f (fun z => q ⟨z.1, by omega⟩), fun c i q _ _ => h.1.2 c i q, h.2, ?_⟩
  rw [ag_f (f := 28) h.1 (by decide) (by decide)]
  exact Int.le_refl _
theorem st_28 {s s' : im_S} (h : st s s') : wgf s' 28 = wgf s 28 := ag_f h.1 (by decide) (by decide)
theorem pc_rfl {f : Int} {s : im_S} : pc f s s := ⟨fun _ _ _ => rfl, fun _ _ _ _ _ => rfl, Int.le_refl _⟩
theorem pc_tr {f : Int} {s s1 s2 : im_S} (h1 : pc f s s1) (h2 : pc f s1 s2) : pc f s s2 := by
  have a := h1.2.2
  refine ⟨fun c f h => (h2.1 c f h).trans (h1.1 c f h), fun c i q1 q2 q3 => (h2.2.1 c i (fun z => q1 ⟨z.1, by omega, z.2.2⟩) q2 q3).trans (h1.2.1 c i q1 q2 q3), Int.le_trans a h2.2.2⟩
theorem st_pc {f : Int} {s s' : im_S} (h : st s s') : pc f s s' := ⟨fun c f q => h.1.1 c f q, fun c i q _ _ => h.1.2 c i q, h.2⟩
theorem pc_28 {f : Int} {s s' : im_S} (h : pc f s s') : wgf s' 28 = wgf s 28 := h.1 582 28 (by decide)
theorem pc_f {f : Int} {s s' : im_S} {g : Nat} (h : pc f s s') (h1 : g ≠ 24) (h2 : g ≠ 25) : wgf s' g = wgf s g := h.1 582 g (fun e => by rcases e.2 with q | q <;> contradiction)
theorem pc_m {f : Int} {s s' : im_S} {i : Int} (h : pc f s s') (h0 : 0 ≤ i) (h1 : i < wgf s 24 ∨ 684000 ≤ i) : wga s' 597 i = wga s 597 i := h.2.1 597 i.toNat (by omega) (by omega) (by omega)
theorem pc_d {f : Int} {s s' : im_S} {i : Int} (h : pc f s s') (h0 : 0 ≤ i) (h1 : i ≠ f) : wga s' 598 i = wga s 598 i := h.2.1 598 i.toNat (by omega) (by omega) (by omega)
theorem pc_p {f : Int} {s s' : im_S} {i : Int} (h : pc f s s') (h0 : 0 ≤ i) (h1 : i < 9 * f ∨ 9 * f + 9 ≤ i) : wga s' 599 i = wga s 599 i := h.2.1 599 i.toNat (by omega) (by omega) (by omega)
theorem pc_nm {f : Int} {s s' : im_S} {x X : Int} (h : pc f s s') (hn : nm s x X) : nm s' x X := by
  have a := hn.1.1
  have b := hn.2
  have c := h.2.2
  exact ⟨num_co hn.1 hn.1.1 hn.1.2.1 (fun k q1 q2 => pc_m h (by omega) (by omega)), by omega⟩
theorem pc_pol {s s' : im_S} {f g : Int} {P : List Int} (h : pc f s s') (hg : g ≠ f) (hp : pol s g P) : pol s' g P := by
  obtain ⟨a, b, c, d, e, q⟩ := hp
  have z := pc_28 h
  refine ⟨a, by omega, by omega, d, by rw [pc_d h a hg]; exact e, fun k hk => ?_⟩
  rw [pc_p h (by omega) (by omega)]
  exact pc_nm h (q k hk)
theorem pc_ps {s0 s s' : im_S} {f : Int} (h0 : ps s0 s) (hf : wgf s0 28 ≤ f) (h : pc f s s') : ps s0 s' := by
  have a := h0.2.2.1
  have z := pc_28 h
  refine ⟨fun c g q => (h.1 c g (fun e => q ⟨e.1, by omega⟩)).trans (h0.1 c g q), fun c i q1 q2 q3 => (h.2.1 c i (fun e => q1 ⟨e.1, by omega, e.2.2⟩) (fun e => q2 ⟨e.1, by omega⟩) (fun e => q3 ⟨e.1, by omega⟩)).trans (h0.2.1 c i q1 q2 q3), Int.le_trans a h.2.2, by rw [z]; exact h0.2.2.2⟩
theorem pc_set {s0 s : im_S} {f i x : Int} (h : pc f s0 s) (h0 : 0 ≤ f) (h1 : 9 * f ≤ i) (h2 : i < 9 * f + 9) : pc f s0 (wpa s 599 i x) := by
  refine ⟨h.1, fun c j q1 q2 q3 => ?_, h.2.2⟩
  have e : (wpa s 599 i x).2 c j = s.2 c j := im_up_ne (fun z => q3 ⟨z.1, by have := z.2; omega, by have := z.2; omega⟩)
  rw [e]
  exact h.2.1 c j q1 q2 q3
theorem pc_deg {s0 s : im_S} {f x : Int} (h : pc f s0 s) (h0 : 0 ≤ f) : pc f s0 (wpa s 598 f x) := by
  refine ⟨h.1, fun c j q1 q2 q3 => ?_, h.2.2⟩
  have e : (wpa s 598 f x).2 c j = s.2 c j := im_up_ne (fun z => q2 ⟨z.1, by have := z.2; omega⟩)
  rw [e]
  exact h.2.1 c j q1 q2 q3
theorem at_ok {s : im_S} {f k : Int} {Q : Int → im_S → Prop} (h0 : 0 ≤ f) (h1 : f < 1200) (h2 : 0 ≤ k) (h3 : k ≤ 8) (hQ : Q (wga s 599 (9 * f + k)) s) : W_at f k s Q := by
  unfold W_at
  exact ⟨⟨by omega, by omega⟩, ⟨by omega, by omega⟩, hQ⟩
theorem set_ok {s : im_S} {f k x : Int} {Q : im_S → Prop} (h0 : 0 ≤ f) (h1 : f < 1200) (h2 : 0 ≤ k) (h3 : k ≤ 8) (hQ : Q (wpa s 599 (9 * f + k) x)) : W_set f k x s Q := by
  unfold W_set
  exact ⟨⟨by omega, by omega⟩, ⟨by omega, by omega⟩, fun s4 e => by rw [e]; exact hQ⟩
theorem nm_row {s : im_S} {c : Nat} {i x y X : Int} (hc : c ≠ 597) (h : nm s y X) : nm (wpa s c i x) y X := ⟨num_co h.1 h.1.1 h.1.2.1 (fun _ _ _ => wg_row (Ne.symm hc)), h.2⟩
theorem newPolynomial_ok {s : im_S} {d : Int} {Q : Int → im_S → Prop} (h0 : 0 ≤ wgf s 28) (h1 : wgf s 28 < 1200) (hQ : ∀ s', ps s s' → wgf s' 28 = wgf s 28 + 1 → wgf s' 24 = wgf s 24 → wga s' 598 (wgf s 28) = d → (∀ i : Int, wga s' 599 i = wga s 599 i) → Q (wgf s 28) s') : W_newPolynomial d s Q := by
  unfold W_newPolynomial
  refine ⟨⟨by omega, by omega⟩, fun s4 e4 => ⟨⟨h0, h1⟩, fun s6 e6 => ?_⟩⟩
  have t1 : wgf s6 28 = wgf s 28 + 1 := by rw [e6, wf_pa, e4]; exact wf_same
  have t2 : wgf s6 24 = wgf s 24 := by rw [e6, wf_pa, e4]; exact wf_ne (by decide)
  refine hQ s6 ⟨fun c f q => ?_, fun c i q1 q2 q3 => ?_, by omega, by omega⟩ t1 t2 ?_ (fun i => ?_)
  · rw [e6, e4]
    exact im_up_ne (fun z => q ⟨z.1, by omega⟩)
  · rw [e6, e4]
    exact im_up_ne (fun z => q2 ⟨z.1, by have := z.2; omega⟩)
  · rw [e6]; exact wg_same
  · rw [e6, e4]
    exact wg_row (by decide)
