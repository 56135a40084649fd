/-! part: THE ROOTS OF A PIECE, PARTED -/
set_option maxRecDepth 100000 in
theorem gln_rt : ∀ j : Nat, j < 80 → gln (311 + 3 * j + 1 + 1) = 24 := by
  have h : ∀ j ∈ List.range 80, gln (311 + 3 * j + 1 + 1) = 24 := by decide +kernel
  intro j hj
  exact h j (List.mem_range.2 hj)
set_option maxRecDepth 100000 in
theorem gln310 : gln 310 = 80 := by decide +kernel
theorem rm_rtt {j : Nat} (h : j < 80) : (4294967296 : Int) ^ rm9 (311 + 3 * j + 1) = 4294967296 ^ 24 := by
  unfold rm9; rw [gln_rt j h]; rfl
def rof (from9 n : Nat) (c f : Nat) : Prop := (267 ≤ c ∧ c ≤ 306) ∨ ((311 + 3 * from9 ≤ c ∧ c < 311 + 3 * (from9 + n)) ∧ ((c % 3 = 2 ∧ (f = 1 ∨ f = 7 ∨ f = 8)) ∨ (c % 3 = 0 ∧ (f = 1 ∨ f = 2))))
def ror (from9 n : Nat) (c : Nat) : Prop := (271 ≤ c ∧ c ≤ 307) ∨ (311 + 3 * from9 ≤ c ∧ c < 311 + 3 * (from9 + n) ∧ c % 3 = 1)
def ptf (from9 n : Nat) (s s' : im_S) : Prop := gfr (rof from9 n) (ror from9 n) s s'
theorem ptf_up {from9 n : Nat} {s s' : im_S} (h : ptf from9 n s s') : ptf from9 (n + 1) s s' := gfr_mono h (fun c f e => by unfold rof at *; omega) (fun c e => by unfold ror at *; omega)
theorem cnf_ptf {from9 n : Nat} {s s' : im_S} (h : cnf s s') : ptf from9 n s s' := gfr_mono h (fun c f e => by unfold rof; omega) (fun c e => by unfold ror; omega)
theorem tsf_ptf {from9 n : Nat} {s s' : im_S} (h : tsf s s') : ptf from9 n s s' := gfr_mono h (fun c f e => by unfold rof; omega) (fun c e => by unfold ror; omega)
/-- what is kept of root j: its interval is c .. c + 1 over 2 ^ b -/
def rt0 (s : im_S) (j : Nat) (c b : Int) : Prop := -32 ≤ b ∧ b ≤ 256 ∧ (c.natAbs : Int) ≤ 2 ^ (b + 32).toNat ∧ s.1 (311 + 3 * j) 7 = b ∧ s.1 (311 + 3 * j) 8 = 1 ∧ big s (311 + 3 * j + 1) c
theorem rt0_co {F : Nat → Nat → Prop} {R : Nat → Prop} {s s' : im_S} {j : Nat} {c b : Int} (h : rt0 s j c b) (f : gfr F R s s') (h1 : ∀ k, ¬ F (311 + 3 * j) k) (h2 : ∀ k, ¬ F (311 + 3 * j + 1) k) (h3 : ¬ R (311 + 3 * j + 1 + 1)) : rt0 s' j c b := by
  obtain ⟨a1, a2, a3, a4, a5, a6⟩ := h
  exact ⟨a1, a2, a3, by rw [f.1 _ _ (h1 7)]; exact a4, by rw [f.1 _ _ (h1 8)]; exact a5, big_g a6 f (h2 1) (h2 2) h3⟩
/-- root j, between the polynomials G0 and G1, and the present one Pc -/
def rfc (s : im_S) (j : Nat) (l r : Rat) (Pc G0 G1 : List Int) (cur : Rat) : Prop := ∃ c b : Int, rt0 s j c b ∧ l = xv c b ∧ ((s.1 (311 + 3 * j) 1 = 1 ∧ r = l ∧ ∃ p q : Int, 0 < q ∧ Int.gcd p q = 1 ∧ (q : Rat) * l = p ∧ ∀ x : Rat, pev G0 x = (q * x - p) * pev G1 x) ∨ (s.1 (311 + 3 * j) 1 = 0 ∧ r = xv (c + 1) b ∧ (∀ x : Rat, pev G0 x = pev G1 x) ∧ nr Pc l r ∧ (pev Pc r ≠ 0 ∨ r = cur)))
theorem rfc_co {F : Nat → Nat → Prop} {R : Nat → Prop} {s s' : im_S} {j : Nat} {l r cur : Rat} {Pc G0 G1 : List Int} (h : rfc s j l r Pc G0 G1 cur) (f : gfr F R s s') (h1 : ∀ k, ¬ F (311 + 3 * j) k) (h2 : ∀ k, ¬ F (311 + 3 * j + 1) k) (h3 : ¬ R (311 + 3 * j + 1 + 1)) : rfc s' j l r Pc G0 G1 cur := by
  obtain ⟨c, b, a1, a2, a3⟩ := h
  refine ⟨c, b, rt0_co a1 f h1 h2 h3, a2, ?_⟩
  rw [f.1 _ _ (h1 1)]
  exact a3
theorem rfc_cur {s : im_S} {j : Nat} {l r cur cur' : Rat} {Pc G0 G1 : List Int} (h : rfc s j l r Pc G0 G1 cur) (hc : pev Pc cur ≠ 0 ∨ cur' = cur) : rfc s j l r Pc G0 G1 cur' := by
  obtain ⟨c, b, a1, a2, a3⟩ := h
  refine ⟨c, b, a1, a2, ?_⟩
  rcases a3 with a3 | ⟨q1, q2, q3, q4, q5⟩
  · exact Or.inl a3
  · refine Or.inr ⟨q1, q2, q3, q4, ?_⟩
    rcases q5 with q | q
    · exact Or.inl q
    · rcases hc with w | w
      · exact Or.inl (by rw [q]; exact w)
      · exact Or.inr (by rw [q, w])
theorem start_b {j : Nat} {s : im_S} {c b fr : Int} {Q : im_S → Prop} (hj : j < 80) (hc : big s 306 c) (cb : (c.natAbs : Int) ≤ 2 ^ (b + 32).toNat) (b1 : -32 ≤ b) (b2 : b ≤ 256) (hQ : ∀ s', rt0 s' j c b → s'.1 (311 + 3 * j) 1 = fr → gfr (fun x f => (x = 311 + 3 * j ∧ (f = 1 ∨ f = 7 ∨ f = 8)) ∨ (x = 311 + 3 * j + 1 ∧ (f = 1 ∨ f = 2))) (fun x => x = 311 + 3 * j + 1 + 1) s s' → Q s') : C_start8 (311 + 3 * j) 306 b fr s Q := by
  have lim : (c.natAbs : Int) < 4294967296 ^ 24 := by
    have a : (2 : Int) ^ (b + 32).toNat ≤ 2 ^ 300 := p2mono (by omega)
    have z : (2 : Int) ^ 300 < 4294967296 ^ 24 := by decide +kernel
    generalize (2 : Int) ^ 300 = Z at a z
    generalize (4294967296 : Int) ^ 24 = Y at z ⊢
    omega
  refine copy_b hc (by omega) (by rw [rm_rtt hj]; exact lim) (by rw [gln_rt j hj]; decide) (fun s1 h1 f1 s2 e2 s3 e3 s4 e4 => ?_)
  have g1 : gfr (fun x f => (x = 311 + 3 * j ∧ (f = 1 ∨ f = 7 ∨ f = 8)) ∨ (x = 311 + 3 * j + 1 ∧ (f = 1 ∨ f = 2))) (fun x => x = 311 + 3 * j + 1 + 1) s s1 := gfr_b (gfr_refl _ _ _) f1 (by omega) (by omega) rfl
  subst e2
  subst e3
  subst e4
  refine hQ _ ⟨b1, b2, cb, ?_, cpf_same _ _ _ _, ?_⟩ ?_ (gfr_pf (gfr_pf (gfr_pf g1 (by omega)) (by omega)) (by omega))
  · rw [cpf_ne (by omega), cpf_ne (by omega), cpf_same]
  · refine big_co h1 ?_ ?_ rfl
    · rw [cpf_ne (by omega), cpf_ne (by omega), cpf_ne (by omega)]
    · rw [cpf_ne (by omega), cpf_ne (by omega), cpf_ne (by omega)]
  · rw [cpf_ne (by omega), cpf_same]
theorem xv_lt (c b : Int) : xv c b < xv (c + 1) b := by
  rw [xv_mul, xv_mul, Rat.intCast_add, rat_i1]
  have := wR_pos b
  grind
theorem xv_2 (c b : Int) : xv (2 * c) (b + 1) = xv c b := by
  rw [xv_mul, xv_mul, wR_s b, Rat.intCast_mul]
  have : ((2 : Int) : Rat) = 2 := rfl
  rw [this]; grind
theorem xv_pow (c b : Int) : ∀ n : Nat, xv (c * 2 ^ n) (b + n) = xv c b
  | 0 => by rw [Int.pow_zero, Int.mul_one, show b + ((0 : Nat) : Int) = b by omega]
  | n + 1 => by
    rw [Int.pow_succ, show c * (2 ^ n * 2) = 2 * (c * 2 ^ n) by grind, show b + ((n + 1 : Nat) : Int) = (b + n) + 1 by omega, xv_2, xv_pow c b n]
theorem xv_pq (c b : Int) : ∃ p q : Int, 0 < q ∧ Int.gcd p q = 1 ∧ (q : Rat) * xv c b = p := by
  obtain ⟨p, q, g, g0, ep, eq, q0, hg⟩ := red (c * 2 ^ (-b).toNat) (p2p b.toNat)
  refine ⟨p, q, q0, hg, ?_⟩
  have e : xv c b * ((2 ^ b.toNat : Int) : Rat) = ((c * 2 ^ (-b).toNat : Int) : Rat) := by
    rw [Rat.intCast_mul, Rat.intCast_pow, Rat.intCast_pow]
    have e2 : ((2 : Int) : Rat) = 2 := rfl
    rw [e2]
    unfold xv
    have p1 := q2p b.toNat
    by_cases h : 0 ≤ b
    · rw [if_pos h, show (-b).toNat = 0 by omega]; grind
    · rw [if_neg h, show b.toNat = 0 by omega]; grind
  rw [ep, eq, Rat.intCast_mul, Rat.intCast_mul] at e
  have gr : (g : Rat) ≠ 0 := fun z => by
    have := Rat.intCast_inj.1 (z.trans rat_i0.symm)
    omega
  have : (g : Rat) * (q * xv c b - p) = 0 := by grind
  rcases Rat.mul_eq_zero.1 this with z | z
  · exact absurd z gr
  · grind
/-- what part leaves of root j -/
def rfe (s : im_S) (j : Nat) (l r : Rat) (Pe G0 G1 : List Int) : Prop := ∃ c b : Int, rt0 s j c b ∧ l = xv c b ∧ ((s.1 (311 + 3 * j) 1 = 1 ∧ r = l ∧ ∃ p q : Int, 0 < q ∧ Int.gcd p q = 1 ∧ (q : Rat) * l = p ∧ ∀ x : Rat, pev G0 x = (q * x - p) * pev G1 x) ∨ (s.1 (311 + 3 * j) 1 = 0 ∧ r = xv (c + 1) b ∧ (∀ x : Rat, pev G0 x = pev G1 x) ∧ pev Pe l * pev Pe r < 0))
def psp (s : im_S) (from9 n d0 : Nat) (P0 : List Int) : Prop := n ≤ d0 ∧ ∃ (G : Nat → List Int) (Lf Rt : Nat → Rat), G 0 = P0 ∧ (∀ i, i < n → rfe s (from9 + i) (Lf i) (Rt i) (G n) (G i) (G (i + 1))) ∧ (∀ i j, i < j → j < n → Rt i ≤ Lf j)
/-- the loop of part -/
def PIV (from9 d0 D : Nat) (P0 : List Int) (st : Int) (s0 s : im_S) (n d t nl nd : Nat) (u c : Int) (X : Nat) (G : Nat → List Int) (Lf Rt : Nat → Rat) : Prop := (G 0 = P0) ∧ ((G n).length = d + 1) ∧ (pgt (G n) d ≠ 0) ∧ (∃ Z : Rat → Rat, ∀ x : Rat, pev P0 x = Z x * pev (G n) x) ∧ (d ≤ d0) ∧ (pns s (Af (G n) d st) u d t c st) ∧ (0 < u) ∧ (nbd D (Af (G n) d st) u X) ∧ (xok X d) ∧ (t ≤ D) ∧ (-(2 ^ t) ≤ c) ∧ (c < 2 ^ t) ∧ (n + d = d0 + nl) ∧ (nl ≤ LSv (Af (G n) d st) t c) ∧ (nd + PNv D (Af (G n) d st) t c ≤ 2700 * (1 + d0 - d)) ∧ (∀ i, i < n → rfc s (from9 + i) (Lf i) (Rt i) (G n) (G i) (G (i + 1)) (xv c (st + t))) ∧ (∀ i j, i < j → j < n → Rt i ≤ Lf j) ∧ (∀ i, i < n → Rt i ≤ xv c (st + t)) ∧ (ptf from9 n s0 s) ∧ (big s 308 1)
theorem PIV.g0 {from9 d0 D : Nat} {P0 : List Int} {st : Int} {s0 s : im_S} {n d t nl nd : Nat} {u c : Int} {X : Nat} {G : Nat → List Int} {Lf Rt : Nat → Rat} (h : PIV from9 d0 D P0 st s0 s n d t nl nd u c X G Lf Rt) : G 0 = P0 := h.1
theorem PIV.len {from9 d0 D : Nat} {P0 : List Int} {st : Int} {s0 s : im_S} {n d t nl nd : Nat} {u c : Int} {X : Nat} {G : Nat → List Int} {Lf Rt : Nat → Rat} (h : PIV from9 d0 D P0 st s0 s n d t nl nd u c X G Lf Rt) : (G n).length = d + 1 := h.2.1
theorem PIV.top {from9 d0 D : Nat} {P0 : List Int} {st : Int} {s0 s : im_S} {n d t nl nd : Nat} {u c : Int} {X : Nat} {G : Nat → List Int} {Lf Rt : Nat → Rat} (h : PIV from9 d0 D P0 st s0 s n d t nl nd u c X G Lf Rt) : pgt (G n) d ≠ 0 := h.2.2.1
theorem PIV.zz {from9 d0 D : Nat} {P0 : List Int} {st : Int} {s0 s : im_S} {n d t nl nd : Nat} {u c : Int} {X : Nat} {G : Nat → List Int} {Lf Rt : Nat → Rat} (h : PIV from9 d0 D P0 st s0 s n d t nl nd u c X G Lf Rt) : ∃ Z : Rat → Rat, ∀ x : Rat, pev P0 x = Z x * pev (G n) x := h.2.2.2.1
theorem PIV.dd {from9 d0 D : Nat} {P0 : List Int} {st : Int} {s0 s : im_S} {n d t nl nd : Nat} {u c : Int} {X : Nat} {G : Nat → List Int} {Lf Rt : Nat → Rat} (h : PIV from9 d0 D P0 st s0 s n d t nl nd u c X G Lf Rt) : d ≤ d0 := h.2.2.2.2.1
theorem PIV.pn {from9 d0 D : Nat} {P0 : List Int} {st : Int} {s0 s : im_S} {n d t nl nd : Nat} {u c : Int} {X : Nat} {G : Nat → List Int} {Lf Rt : Nat → Rat} (h : PIV from9 d0 D P0 st s0 s n d t nl nd u c X G Lf Rt) : pns s (Af (G n) d st) u d t c st := h.2.2.2.2.2.1
theorem PIV.u0 {from9 d0 D : Nat} {P0 : List Int} {st : Int} {s0 s : im_S} {n d t nl nd : Nat} {u c : Int} {X : Nat} {G : Nat → List Int} {Lf Rt : Nat → Rat} (h : PIV from9 d0 D P0 st s0 s n d t nl nd u c X G Lf Rt) : 0 < u := h.2.2.2.2.2.2.1
theorem PIV.nb {from9 d0 D : Nat} {P0 : List Int} {st : Int} {s0 s : im_S} {n d t nl nd : Nat} {u c : Int} {X : Nat} {G : Nat → List Int} {Lf Rt : Nat → Rat} (h : PIV from9 d0 D P0 st s0 s n d t nl nd u c X G Lf Rt) : nbd D (Af (G n) d st) u X := h.2.2.2.2.2.2.2.1
theorem PIV.xo {from9 d0 D : Nat} {P0 : List Int} {st : Int} {s0 s : im_S} {n d t nl nd : Nat} {u c : Int} {X : Nat} {G : Nat → List Int} {Lf Rt : Nat → Rat} (h : PIV from9 d0 D P0 st s0 s n d t nl nd u c X G Lf Rt) : xok X d := h.2.2.2.2.2.2.2.2.1
theorem PIV.tD {from9 d0 D : Nat} {P0 : List Int} {st : Int} {s0 s : im_S} {n d t nl nd : Nat} {u c : Int} {X : Nat} {G : Nat → List Int} {Lf Rt : Nat → Rat} (h : PIV from9 d0 D P0 st s0 s n d t nl nd u c X G Lf Rt) : t ≤ D := h.2.2.2.2.2.2.2.2.2.1
theorem PIV.c1 {from9 d0 D : Nat} {P0 : List Int} {st : Int} {s0 s : im_S} {n d t nl nd : Nat} {u c : Int} {X : Nat} {G : Nat → List Int} {Lf Rt : Nat → Rat} (h : PIV from9 d0 D P0 st s0 s n d t nl nd u c X G Lf Rt) : -(2 ^ t) ≤ c := h.2.2.2.2.2.2.2.2.2.2.1
theorem PIV.c2 {from9 d0 D : Nat} {P0 : List Int} {st : Int} {s0 s : im_S} {n d t nl nd : Nat} {u c : Int} {X : Nat} {G : Nat → List Int} {Lf Rt : Nat → Rat} (h : PIV from9 d0 D P0 st s0 s n d t nl nd u c X G Lf Rt) : c < 2 ^ t := h.2.2.2.2.2.2.2.2.2.2.2.1
theorem PIV.cnt {from9 d0 D : Nat} {P0 : List Int} {st : Int} {s0 s : im_S} {n d t nl nd : Nat} {u c : Int} {X : Nat} {G : Nat → List Int} {Lf Rt : Nat → Rat} (h : PIV from9 d0 D P0 st s0 s n d t nl nd u c X G Lf Rt) : n + d = d0 + nl := h.2.2.2.2.2.2.2.2.2.2.2.2.1
theorem PIV.nls {from9 d0 D : Nat} {P0 : List Int} {st : Int} {s0 s : im_S} {n d t nl nd : Nat} {u c : Int} {X : Nat} {G : Nat → List Int} {Lf Rt : Nat → Rat} (h : PIV from9 d0 D P0 st s0 s n d t nl nd u c X G Lf Rt) : nl ≤ LSv (Af (G n) d st) t c := h.2.2.2.2.2.2.2.2.2.2.2.2.2.1
theorem PIV.nod {from9 d0 D : Nat} {P0 : List Int} {st : Int} {s0 s : im_S} {n d t nl nd : Nat} {u c : Int} {X : Nat} {G : Nat → List Int} {Lf Rt : Nat → Rat} (h : PIV from9 d0 D P0 st s0 s n d t nl nd u c X G Lf Rt) : nd + PNv D (Af (G n) d st) t c ≤ 2700 * (1 + d0 - d) := h.2.2.2.2.2.2.2.2.2.2.2.2.2.2.1
theorem PIV.rts {from9 d0 D : Nat} {P0 : List Int} {st : Int} {s0 s : im_S} {n d t nl nd : Nat} {u c : Int} {X : Nat} {G : Nat → List Int} {Lf Rt : Nat → Rat} (h : PIV from9 d0 D P0 st s0 s n d t nl nd u c X G Lf Rt) : ∀ i, i < n → rfc s (from9 + i) (Lf i) (Rt i) (G n) (G i) (G (i + 1)) (xv c (st + t)) := h.2.2.2.2.2.2.2.2.2.2.2.2.2.2.2.1
theorem PIV.od1 {from9 d0 D : Nat} {P0 : List Int} {st : Int} {s0 s : im_S} {n d t nl nd : Nat} {u c : Int} {X : Nat} {G : Nat → List Int} {Lf Rt : Nat → Rat} (h : PIV from9 d0 D P0 st s0 s n d t nl nd u c X G Lf Rt) : ∀ i j, i < j → j < n → Rt i ≤ Lf j := h.2.2.2.2.2.2.2.2.2.2.2.2.2.2.2.2.1
theorem PIV.od2 {from9 d0 D : Nat} {P0 : List Int} {st : Int} {s0 s : im_S} {n d t nl nd : Nat} {u c : Int} {X : Nat} {G : Nat → List Int} {Lf Rt : Nat → Rat} (h : PIV from9 d0 D P0 st s0 s n d t nl nd u c X G Lf Rt) : ∀ i, i < n → Rt i ≤ xv c (st + t) := h.2.2.2.2.2.2.2.2.2.2.2.2.2.2.2.2.2.1
theorem PIV.fr {from9 d0 D : Nat} {P0 : List Int} {st : Int} {s0 s : im_S} {n d t nl nd : Nat} {u c : Int} {X : Nat} {G : Nat → List Int} {Lf Rt : Nat → Rat} (h : PIV from9 d0 D P0 st s0 s n d t nl nd u c X G Lf Rt) : ptf from9 n s0 s := h.2.2.2.2.2.2.2.2.2.2.2.2.2.2.2.2.2.2.1
theorem PIV.one {from9 d0 D : Nat} {P0 : List Int} {st : Int} {s0 s : im_S} {n d t nl nd : Nat} {u c : Int} {X : Nat} {G : Nat → List Int} {Lf Rt : Nat → Rat} (h : PIV from9 d0 D P0 st s0 s n d t nl nd u c X G Lf Rt) : big s 308 1 := h.2.2.2.2.2.2.2.2.2.2.2.2.2.2.2.2.2.2.2
theorem PIV_fin {from9 d0 D : Nat} {P0 : List Int} {st : Int} {s0 s : im_S} {n d t nl nd : Nat} {u c : Int} {X : Nat} {G : Nat → List Int} {Lf Rt : Nat → Rat} (h : PIV from9 d0 D P0 st s0 s n d t nl nd u c X G Lf Rt) (d8 : d ≤ 8) (hc : pev (G n) (xv c (st + t)) ≠ 0) : psp s from9 n d0 P0 := by
  have ls := LSv_le (Af_len (G n) d st) d8 t c h.c1 (Int.le_of_lt h.c2)
  have a1 := h.nls
  have a2 := h.cnt
  refine ⟨by omega, G, Lf, Rt, h.g0, fun i hi => ?_, h.od1⟩
  obtain ⟨c', b', q1, q2, q3⟩ := h.rts i hi
  refine ⟨c', b', q1, q2, ?_⟩
  rcases q3 with q | ⟨w1, w2, w3, w4, w5⟩
  · exact Or.inl q
  · refine Or.inr ⟨w1, w2, w3, nr_end w4 ?_⟩
    rcases w5 with w | w
    · exact w
    · rw [w]; exact hc
