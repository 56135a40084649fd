/-! THE REFERENCE'S POLYNOMIALS: signAt2, changesAt, changesAtHalf -/
/-- the value at p / q times q to the degree, from the highest factor on -/
def phm (P : List Int) (p q : Int) (n : Nat) : Nat → Int
  | 0 => pgt P n
  | j + 1 => phm P p q n j * p + pgt P (n - (j + 1)) * q ^ (j + 1)
def psg (P : List Int) (p q : Int) : Int := sg (phm P p q (P.length - 1) (P.length - 1))
theorem phm_lb {P : List Int} {p q : Int} {n M K : Nat} (hM : plb P M) (hp : lim p ≤ K) (hq : lim q ≤ K) : ∀ j : Nat, lim (phm P p q n j) ≤ M + j * (K + 1)
  | 0 => by have := hM n; show lim (pgt P n) ≤ _; omega
  | j + 1 => by
    show lim (phm P p q n j * p + pgt P (n - (j + 1)) * q ^ (j + 1)) ≤ _
    have e : (j + 1) * (K + 1) = j * (K + 1) + (K + 1) := Nat.succ_mul _ _
    have e2 : (j + 1) * K ≤ (j + 1) * (K + 1) := Nat.mul_le_mul_left _ (by omega)
    have e3 : (j + 1) * (K + 1) = (j + 1) * K + (j + 1) := by rw [Nat.mul_add, Nat.mul_one]
    have e4 : (j + 1) * lim q ≤ (j + 1) * K := Nat.mul_le_mul_left _ hq
    have a := phm_lb hM hp hq (n := n) j
    have b := lim_mul (phm P p q n j) p
    have c := lim_pw2 q (pgt P (n - (j + 1))) (j + 1)
    rw [Int.mul_comm] at c
    have d := hM (n - (j + 1))
    have z := lim_add (phm P p q n j * p) (pgt P (n - (j + 1)) * q ^ (j + 1))
    omega
/-- memory from the top on, and the top as it was -/
def sb (s s' : im_S) : Prop := st s s' ∧ wgf s' 24 = wgf s 24
theorem sb_rfl {s : im_S} : sb s s := ⟨st_rfl, rfl⟩
theorem sb_tr {s s1 s2 : im_S} (h1 : sb s s1) (h2 : sb s1 s2) : sb s s2 := ⟨st_tr h1.1 h2.1, h2.2.trans h1.2⟩
theorem sb_back {s s1 : im_S} (h : st s s1) : sb s (wpf s1 24 (wgf s 24)) := by
  have e : wgf (wpf s1 24 (wgf s 24)) 24 = wgf s 24 := wf_same
  exact ⟨⟨ag_pf h.1 (Or.inl rfl), by rw [e]; exact Int.le_refl _⟩, e⟩
theorem sb_pol {s s' : im_S} {f : Int} {P : List Int} (h : sb s s') (hp : pol s f P) : pol s' f P := ps_pol (st_ps h.1) (by rw [st_28 h.1]; exact hp.2.2.1) hp
theorem signAt2_ok {s : im_S} {f x y p q : Int} {P : List Int} {M K : Nat} {Q : Int → im_S → Prop} (hf : pol s f P) (hM : plb P M) (h1 : 1 ≤ P.length) (hx : nm s x p) (hy : nm s y q) (hp : lim p ≤ K) (hq : lim q ≤ K) (h0 : 0 ≤ wgf s 24) (hm : wgf s 24 + 40 * ((M : Int) + 9 * (K + 1) + 1) ≤ 684000) (hQ : ∀ s', sb s s' → Q (psg P p q) s') : W_signAt2 f x y s Q := by
  unfold W_signAt2
  obtain ⟨f1, f2, f3, f4, f5, f6⟩ := hf
  have hfb : 0 ≤ f ∧ f < 1200 := ⟨f1, by omega⟩
  obtain ⟨n, hn⟩ : ∃ n, P.length = n + 1 := ⟨P.length - 1, by omega⟩
  have l1 := lim_one
  obtain ⟨U, hU⟩ : ∃ U : Int, U = (M : Int) + 9 * (K + 1) + 1 := ⟨_, rfl⟩
  rw [← hU] at hm
  refine ⟨hfb, ?_⟩
  rw [f5, show ((P.length : Nat) : Int) - 1 = (n : Int) by omega]
  refine at_ok hfb.1 hfb.2 (by omega) (by omega) (whole_ok ⟨by decide, by decide⟩ h0 (by omega) (fun s1 a1 a2 a3 => ⟨hfb, ?_, ?_⟩))
  · rw [st_row a1 (by decide), f5]; exact ⟨by omega, by omega⟩
  rw [l1] at a3
  rw [st_row a1 (by decide), f5, show ((P.length : Nat) : Int) - 1 - 1 = (n : Int) - 1 - (0 : Nat) by omega]
  refine ⟨fun a => ∃ j : Nat, a.2.2.1 = (n : Int) - 1 - j ∧ j ≤ n ∧ st s a.2.2.2 ∧ nm a.2.2.2 a.1 (phm P p q n j) ∧ nm a.2.2.2 a.2.1 (q ^ j) ∧ wgf a.2.2.2 24 ≤ wgf s 24 + 2 + j * (4 * U), fun a => (a.2.2.1 + 1).toNat, ⟨0, rfl, by omega, a1, st_nm a1 (f6 n (by omega)), by rw [Int.pow_zero]; exact a2, by dsimp only; omega⟩, ?_⟩
  rintro ⟨al, pw, k0, s2⟩ ⟨j, i1, i2, i3, i4, i5, i6⟩
  dsimp only at i1 i2 i3 i4 i5 i6 ⊢
  subst i1
  unfold W_signAt2_36
  have i32 := i3.2
  refine ⟨fun c => ?_, fun c => ?_⟩
  · have ej : j = n := by omega
    subst ej
    refine sgn_ok i4.1 (fun s4 e4 => ?_)
    have z := hQ s4 (by rw [e4]; exact sb_back i3)
    unfold psg at z
    rw [show P.length - 1 = j by omega] at z
    exact z
  · have hj : j < n := by omega
    have m1 : ((j : Int) + 1) * (4 * U) ≤ 8 * (4 * U) := Int.mul_le_mul_of_nonneg_right (by omega) (by omega)
    have m2 : ((j : Int) + 1) * (4 * U) = j * (4 * U) + 4 * U := by rw [Int.add_mul, Int.one_mul]
    have b1 := phm_lb hM hp hq (n := n) j
    have b2 := phm_lb hM hp hq (n := n) (j + 1)
    have b3 := lim_pow q j
    have b4 := lim_pow q (j + 1)
    have b5 : (j + 1) * (K + 1) ≤ 8 * (K + 1) := Nat.mul_le_mul_right _ (by omega)
    have b6 : j * (K + 1) ≤ 8 * (K + 1) := Nat.mul_le_mul_right _ (by omega)
    have b7 : (j + 1) * lim q ≤ 8 * (K + 1) := Nat.mul_le_mul (by omega) (by omega)
    have b8 : j * lim q ≤ 8 * (K + 1) := Nat.mul_le_mul (by omega) (by omega)
    have b9 := lim_mul (phm P p q n j) p
    have b10 := lim_pw2 q (pgt P (n - (j + 1))) (j + 1)
    rw [Int.mul_comm] at b10
    have b11 := hM (n - (j + 1))
    refine by_ok i5 (st_nm i3 hy) (by omega) (by omega) (fun s3 c1 c2 c3 => ?_)
    have ep : q ^ j * q = q ^ (j + 1) := (Int.pow_succ q j).symm
    rw [ep] at c2 c3
    have c12 := c1.2
    refine by_ok (st_nm c1 i4) (st_nm c1 (st_nm i3 hx)) (by omega) (by omega) (fun s4 d1 d2 d3 => ?_)
    have d12 := d1.2
    have s4s := st_tr i3 (st_tr c1 d1)
    refine at_ok hfb.1 hfb.2 (by omega) (by omega) ?_
    have nk : nm s4 (wga s4 599 (9 * f + ((n : Int) - 1 - j))) (pgt P (n - (j + 1))) := by
      rw [st_row s4s (by decide), show (n : Int) - 1 - j = ((n - (j + 1) : Nat) : Int) by omega]
      exact st_nm s4s (f6 (n - (j + 1)) (by omega))
    refine by_ok nk (st_nm d1 c2) (by omega) (by omega) (fun s5 e1 e2 e3 => ?_)
    have e12 := e1.2
    refine plus_ok (st_nm e1 d2) e2 (by omega) (by omega) (fun s6 g1 g2 g3 => ⟨⟨by omega, by omega⟩, ⟨j + 1, by dsimp only; omega, by omega, st_tr s4s (st_tr e1 g1), g2, st_nm g1 (st_nm e1 (st_nm d1 c2)), ?_⟩, by dsimp only; omega⟩)
    have g3' : wgf s6 24 = wgf s5 24 + lim (phm P p q n (j + 1)) + 1 := g3
    dsimp only
    rw [show ((j + 1 : Nat) : Int) = (j : Int) + 1 by omega]
    omega
/-- how often signs change in a row of them; the last that is not 0 -/
def chv (f : Nat → Int) : Nat → Int × Int
  | 0 => (0, 0)
  | k + 1 => ((chv f k).1 + (if f k = 0 then 0 else if (chv f k).2 = 0 then 0 else if f k = (chv f k).2 then 0 else 1), if f k = 0 then (chv f k).2 else f k)
theorem chv_b (f : Nat → Int) : ∀ k : Nat, 0 ≤ (chv f k).1 ∧ (chv f k).1 ≤ k
  | 0 => ⟨Int.le_refl 0, Int.le_refl 0⟩
  | k + 1 => by
    have z := chv_b f k
    show 0 ≤ (chv f k).1 + (if f k = 0 then 0 else if (chv f k).2 = 0 then 0 else if f k = (chv f k).2 then 0 else 1) ∧ (chv f k).1 + (if f k = 0 then 0 else if (chv f k).2 = 0 then 0 else if f k = (chv f k).2 then 0 else 1) ≤ ((k + 1 : Nat) : Int)
    split
    · omega
    · split
      · omega
      · split <;> omega
/-- the chain in its place -/
def chn (s : im_S) (c : Nat → List Int) (N M : Nat) : Prop := wgf s 29 = N ∧ N ≤ 12 ∧ ∀ k : Nat, k < N → pol s (wga s 600 k) (c k) ∧ plb (c k) M ∧ 1 ≤ (c k).length
theorem sb_chn {s s' : im_S} {c : Nat → List Int} {N M : Nat} (h : sb s s') (hc : chn s c N M) : chn s' c N M := by
  refine ⟨by rw [ag_f h.1.1 (by decide) (by decide)]; exact hc.1, hc.2.1, fun k hk => ?_⟩
  rw [st_row h.1 (by decide)]
  exact ⟨sb_pol h (hc.2.2 k hk).1, (hc.2.2 k hk).2⟩
theorem st_pol {s s' : im_S} {f : Int} {P : List Int} (h : st s s') (hp : pol s f P) : pol s' f P := ps_pol (st_ps h) (by rw [st_28 h]; exact hp.2.2.1) hp
theorem st_chn {s s' : im_S} {c : Nat → List Int} {N M : Nat} (h : st s s') (hc : chn s c N M) : chn s' c N M := by
  refine ⟨by rw [ag_f h.1 (by decide) (by decide)]; exact hc.1, hc.2.1, fun k hk => ?_⟩
  rw [st_row h (by decide)]
  exact ⟨st_pol h (hc.2.2 k hk).1, (hc.2.2 k hk).2⟩
theorem changesAt_ok {s : im_S} {x y p q : Int} {c : Nat → List Int} {N M K : Nat} {Q : Int → im_S → Prop} (hc : chn s c N M) (hx : nm s x p) (hy : nm s y q) (hp : lim p ≤ K) (hq : lim q ≤ K) (h0 : 0 ≤ wgf s 24) (hm : wgf s 24 + 40 * ((M : Int) + 9 * (K + 1) + 1) ≤ 684000) (hQ : ∀ s', sb s s' → Q (chv (fun k => psg (c k) p q) N).1 s') : W_changesAt x y s Q := by
  unfold W_changesAt
  refine ⟨fun a => ∃ k : Nat, a.2.2.1 = k ∧ k ≤ N ∧ sb s a.2.2.2 ∧ a.1 = (chv (fun k => psg (c k) p q) k).1 ∧ a.2.1 = (chv (fun k => psg (c k) p q) k).2, fun a => ((N : Int) - a.2.2.1).toNat, ⟨0, rfl, by omega, sb_rfl, rfl, rfl⟩, ?_⟩
  rintro ⟨v, l, k0, s2⟩ ⟨k, i1, i2, i3, i4, i5⟩
  dsimp only at i1 i2 i3 i4 i5 ⊢
  subst i1
  have hc2 := sb_chn i3 hc
  have hN := hc2.1
  have hN2 := hc.2.1
  have i31 := i3.1.2
  have i32 := i3.2
  unfold W_changesAt_8
  refine ⟨fun e => ?_, fun e => ?_⟩
  · have ek : k = N := by omega
    subst ek
    rw [i4]
    exact hQ s2 i3
  · have hk : k < N := by omega
    have z := hc2.2.2 k hk
    have cb := chv_b (fun k => psg (c k) p q) k
    refine ⟨⟨by omega, by omega⟩, signAt2_ok z.1 z.2.1 z.2.2 (st_nm i3.1 hx) (st_nm i3.1 hy) hp hq (by omega) (by omega) (fun s3 a1 w hw => ⟨?_, fun u hu => ⟨⟨by omega, by omega⟩, ⟨k + 1, by dsimp only; omega, by omega, sb_tr i3 a1, ?_, ?_⟩, by dsimp only; omega⟩⟩)⟩
    · rw [hw, i4]
      split
      · exact ⟨by omega, by omega⟩
      · split
        · exact ⟨by omega, by omega⟩
        · split
          · exact ⟨by omega, by omega⟩
          · exact ⟨by omega, by omega⟩
    · dsimp only
      rw [hw, i4, i5]
      rfl
    · dsimp only
      rw [hu, i5]
      rfl
/-- numerator and denominator of a half: h / 2 ^ e -/
def hfp (h e : Int) : Int := if e < 0 then h * 2 ^ (-e).toNat else h
def hfq (e : Int) : Int := if e < 0 then 1 else 2 ^ e.toNat
/-- how many changes at a half -/
def cha (c : Nat → List Int) (N : Nat) (h e : Int) : Int := (chv (fun k => psg (c k) (hfp h e) (hfq e)) N).1
theorem changesAtHalf_ok {s : im_S} {x h e : Int} {c : Nat → List Int} {N M K : Nat} {Q : Int → im_S → Prop} (hc : chn s c N M) (hx : nm s x h) (he : -2000 ≤ e ∧ e ≤ 2000) (hp : lim (hfp h e) ≤ K) (hh : lim h ≤ K) (hq : 80 ≤ K) (h0 : 0 ≤ wgf s 24) (hm : wgf s 24 + 2040 * 80 + 2 * K + 80 + 40 * ((M : Int) + 9 * (K + 1) + 1) ≤ 684000) (hQ : ∀ s', sb s s' → Q (cha c N h e) s') : W_changesAtHalf x e s Q := by
  unfold W_changesAtHalf
  have pw2 : ∀ E : Nat, E ≤ 2000 → lim (2 ^ E) ≤ 70 := fun E hE => by
    have := lim_p2 E
    omega
  have pw3 : ∀ E : Nat, E ≤ 2000 → ((E : Int) + 40) * (lim (2 ^ E) + 3) ≤ 2040 * 73 := fun E hE => by
    have a := pw2 E hE
    have b : (E + 40) * (lim (2 ^ E) + 3) ≤ 2040 * 73 := Nat.mul_le_mul (by omega) (by omega)
    exact Int.ofNat_le.2 b
  have l1 := lim_one
  unfold cha hfp hfq at hQ
  unfold hfp at hp
  refine ⟨fun c1 => ⟨⟨by omega, by omega⟩, ?_⟩, fun c1 => ?_⟩
  · rw [if_pos c1] at hp
    rw [if_pos c1, if_pos c1] at hQ
    obtain ⟨E, hE⟩ : ∃ E : Nat, -e = E := ⟨(-e).toNat, by omega⟩
    rw [hE, Int.toNat_natCast] at hp hQ
    rw [hE]
    have q1 := pw2 E (by omega)
    have q2 := pw3 E (by omega)
    refine powerOfTwo_ok h0 (by omega) (by omega) (fun s1 a1 a2 a3 => by_ok (st_nm a1 hx) a2 (by omega) (by omega) (fun s2 b1 b2 b3 => whole_ok ⟨by decide, by decide⟩ (by omega) (by omega) (fun s3 d1 d2 d3 => ?_)))
    have s3s := st_tr a1 (st_tr b1 d1)
    refine changesAt_ok (K := K) (st_chn s3s hc) (st_nm d1 b2) d2 hp (by omega) (by omega) (by omega) (fun s4 g1 s5 e5 => ?_)
    refine hQ s5 ?_
    rw [e5]
    exact sb_back (st_tr s3s g1.1)
  · rw [if_neg c1] at hp
    rw [if_neg c1, if_neg c1] at hQ
    obtain ⟨E, hE⟩ : ∃ E : Nat, e = E := ⟨e.toNat, by omega⟩
    rw [hE, Int.toNat_natCast] at hQ
    rw [hE]
    have q1 := pw2 E (by omega)
    have q2 := pw3 E (by omega)
    refine powerOfTwo_ok h0 (by omega) (by omega) (fun s1 a1 a2 a3 => ?_)
    refine changesAt_ok (K := K) (st_chn a1 hc) (st_nm a1 hx) a2 hp (by omega) (by omega) (by omega) (fun s4 g1 s5 e5 => ?_)
    refine hQ s5 ?_
    rw [e5]
    exact sb_back (st_tr a1 g1.1)
