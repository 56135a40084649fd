/-! addRoot -/
/-- memory from lo on, the room of root R, and R's entries -/
def ar (lo R : Int) (s s' : im_S) : Prop := (∀ c f : Nat, ¬ (c = 582 ∧ (f = 24 ∨ f = 25 ∨ f = 41 ∨ f = 52)) → s'.1 c f = s.1 c f) ∧ (∀ c i : Nat, ¬ (c = 597 ∧ lo ≤ (i : Int) ∧ (i : Int) < 684000) → ¬ (c = 597 ∧ 700000 - 200 * (R + 1) ≤ (i : Int) ∧ (i : Int) < 700000 - 200 * R) → ¬ ((c = 607 ∨ c = 608 ∨ c = 609 ∨ c = 611 ∨ c = 612) ∧ (i : Int) = R) → s'.2 c i = s.2 c i)
theorem ar_rfl {lo R : Int} {s : im_S} : ar lo R s s := ⟨fun _ _ _ => rfl, fun _ _ _ _ _ => rfl⟩
theorem ar_tr {lo R : Int} {s s1 s2 : im_S} (h1 : ar lo R s s1) (h2 : ar lo R s1 s2) : ar lo R s s2 := ⟨fun c f h => (h2.1 c f h).trans (h1.1 c f h), fun c i q1 q2 q3 => (h2.2 c i q1 q2 q3).trans (h1.2 c i q1 q2 q3)⟩
theorem st_ar {lo R : Int} {s s' : im_S} (h : st s s') (hl : lo ≤ wgf s 24) : ar lo R s s' := ⟨fun c f q => h.1.1 c f (fun z => q ⟨z.1, by omega⟩), fun c i q1 _ _ => h.1.2 c i (fun z => q1 ⟨z.1, by omega, z.2.2⟩)⟩
theorem ar_pf {lo R x : Int} {f : Nat} {s s' : im_S} (h : ar lo R s s') (hf : f = 24 ∨ f = 25 ∨ f = 41 ∨ f = 52) : ar lo R s (wpf s' f x) := ⟨fun c g q => by
  have e : (wpf s' f x).1 c g = s'.1 c g := im_up_ne (fun z => q ⟨z.1, by rw [z.2]; exact hf⟩)
  rw [e]
  exact h.1 c g q, h.2⟩
theorem ar_pa {lo R x : Int} {c : Nat} {s s' : im_S} (h : ar lo R s s') (hR : 0 ≤ R) (hc : c = 607 ∨ c = 608 ∨ c = 609 ∨ c = 611 ∨ c = 612) : ar lo R s (wpa s' c R x) := ⟨h.1, fun d j q1 q2 q3 => by
  have e : (wpa s' c R x).2 d j = s'.2 d j := im_up_ne (fun z => q3 ⟨by rw [z.1]; exact hc, by have := z.2; omega⟩)
  rw [e]
  exact h.2 d j q1 q2 q3⟩
theorem ar_num {lo R x X : Int} {s s' : im_S} (h : ar lo R s s') (hn : num s x X) (hx : x + lim X < lo ∨ 700000 - 200 * R ≤ x) (hR : R ≤ 79) (hlo : lo ≤ 684000) (hR0 : 0 ≤ R) : num s' x X := by
  have a := hn.1
  exact num_co hn hn.1 hn.2.1 (fun k q1 q2 => h.2 597 (x + k).toNat (by omega) (by omega) (by omega))
theorem ar_f {lo R : Int} {s s' : im_S} {f : Nat} (h : ar lo R s s') (h1 : f ≠ 24) (h2 : f ≠ 25) (h3 : f ≠ 41) (h4 : f ≠ 52) : wgf s' f = wgf s f := h.1 582 f (fun e => by rcases e.2 with q | q | q | q <;> contradiction)
theorem ar_r {lo R i : Int} {c : Nat} {s s' : im_S} (h : ar lo R s s') (h1 : c ≠ 597) (h2 : ¬ (c = 607 ∨ c = 608 ∨ c = 609 ∨ c = 611 ∨ c = 612)) : wga s' c i = wga s c i := h.2 c i.toNat (fun z => h1 z.1) (fun z => h1 z.1) (fun z => h2 z.1)
theorem ar_rj {lo R j : Int} {c : Nat} {s s' : im_S} (h : ar lo R s s') (h0 : 0 ≤ j) (h1 : c ≠ 597) (h2 : j ≠ R) : wga s' c j = wga s c j := h.2 c j.toNat (fun z => h1 z.1) (fun z => h1 z.1) (fun z => h2 (by have := z.2; omega))
theorem ar_pol {lo R f : Int} {P : List Int} {s s' : im_S} (h : ar lo R s s') (hR : 0 ≤ R ∧ R ≤ 79) (hlo : lo ≤ 684000) (hl : lo ≤ wgf s' 24) (hp : pol s f P) (hb : ∀ k : Nat, k < P.length → wga s 599 (9 * f + k) + lim (pgt P k) < lo) : pol s' f P := by
  obtain ⟨f1, f2, f3, f4, f5, f6⟩ := hp
  have e28 := ar_f (f := 28) h (by decide) (by decide) (by decide) (by decide)
  refine ⟨f1, by omega, by omega, f4, by rw [ar_r h (by decide) (by decide)]; exact f5, fun k hk => ?_⟩
  rw [ar_r h (by decide) (by decide)]
  have z := f6 k hk
  have b := hb k hk
  exact ⟨ar_num h z.1 (Or.inl b) hR.2 hlo hR.1, by omega⟩
def vfall (c : Nat → List Int) (N : Nat) (h e : Int) : Int := vst c (N - 1) ((h : Rat) * wd e) - vst c (N - 1) (((h : Rat) + 1) * wd e)
/-- what is known of a root that was added -/
def rt1 (c : Nat → List Int) (N : Nat) (s : im_S) (R b : Int) (P : List Int) (l0 r0 : Rat) : Prop := wga s 607 R = b ∧ wga s 611 R = 700000 - 200 * (R + 1) ∧ ∃ (h e : Int), wga s 612 R = e ∧ num s (700000 - 200 * (R + 1)) h ∧ 0 ≤ e ∧ e ≤ 650 ∧ hbd h e ∧ hbd (h + 1) e ∧ vfall c N h e = 1 ∧ l0 ≤ (h : Rat) * wd e ∧ ((h : Rat) + 1) * wd e ≤ r0 ∧ (∀ x : Rat, pev P x = 0 → l0 < x → x ≤ r0 → (h : Rat) * wd e < x ∧ x ≤ ((h : Rat) + 1) * wd e) ∧ ((wga s 609 R = 0 ∧ ∀ x : Rat, pev P x = 0 → ¬ ((h : Rat) * wd e < x ∧ x ≤ ((h : Rat) + 1) * wd e)) ∨ ∃ x : Rat, pev P x = 0 ∧ (h : Rat) * wd e < x ∧ x ≤ ((h : Rat) + 1) * wd e ∧ wga s 608 R = x.num ∧ wga s 609 R = (x.den : Int))
theorem wd_2 (h e : Int) : ((h * 2 : Int) : Rat) * wd (e + 1) = (h : Rat) * wd e ∧ ((h * 2 + 1 + 1 : Int) : Rat) * wd (e + 1) = ((h : Rat) + 1) * wd e := by
  have w := wd_half e
  have t : ((2 : Int) : Rat) = 2 := rfl
  constructor
  · rw [Rat.intCast_mul, t, w]; grind
  · rw [Rat.intCast_add, Rat.intCast_add, Rat.intCast_mul, t, rat_i1, w]; grind
theorem addRoot_fin {s s0 : im_S} {b x x6 R h e L : Int} {c : Nat → List Int} {N : Nat} {P : List Int} {l0 r0 : Rat} {Q : im_S → Prop} (hb0 : 0 ≤ b ∧ b < 200) (hf : pol s (wga s 602 b) P) (hP : bs P) (hR : 0 ≤ R ∧ R ≤ 79) (h41 : wgf s 41 = R + 1) (h52 : wgf s 52 = R + 1) (hs : ar (wgf s0 24) R s0 s) (hl0 : wgf s0 24 ≤ wgf s 24) (hx : nm s x h) (hxl : x + lim h < 684000) (hx6 : nm s x6 L) (hL : L = pgt P (P.length - 1)) (he0 : 0 ≤ e) (he : e ≤ 650) (hb : hbd h e) (hb1 : hbd (h + 1) e) (hVf : vfall c N h e = 1) (hw : L < 2 ^ e.toNat) (h0 : 0 ≤ wgf s 24) (hm : wgf s 24 + 30000 ≤ 684000) (g607 : wga s 607 R = b) (g609 : wga s 609 R = 0) (g611 : wga s 611 R = 700000 - 200 * (R + 1)) (g612 : wga s 612 R = e) (gnum : num s (700000 - 200 * (R + 1)) h) (hsub : l0 ≤ (h : Rat) * wd e ∧ ((h : Rat) + 1) * wd e ≤ r0 ∧ ∀ x : Rat, pev P x = 0 → l0 < x → x ≤ r0 → (h : Rat) * wd e < x ∧ x ≤ ((h : Rat) + 1) * wd e) (hQ : ∀ s', ar (wgf s0 24) R s0 s' → wgf s' 41 = R + 1 → wgf s' 52 = R + 1 → wgf s 24 ≤ wgf s' 24 → wgf s' 24 ≤ wgf s 24 + 300 → rt1 c N s' R b P l0 r0 → Q s') : W_powerOfTwo e s (fun z242 s241 => (W_whole 1 s241 (fun z244 s243 => (W_plus x z244 s243 (fun z246 s245 => (W_by z246 x6 s245 (fun z248 s247 => (W_over z248 z242 s247 (fun z250 s249 => (W_by z250 z242 s249 (fun z252 s251 => (W_by x x6 s251 (fun z254 s253 => (W_compare z252 z254 s253 (fun z256 s255 => (∀ v457 : Int, v457 = (if z256 ≤ 0 then 0 else 1) → ((v457 = 0 → (W_addRoot_312 s255 Q)) ∧ (¬ (v457 = 0) → ((0 ≤ b ∧ b < 200) ∧ (W_signAt2 (wga s255 602 b) z250 x6 s255 (fun z463 s462 => ((¬ (z463 = 0) → (W_addRoot_312 s462 Q)) ∧ (z463 = 0 → (W_valueOf z250 s462 (fun z466 s465 => (W_valueOf x6 s465 (fun z468 s467 => (W_divisor z466 z468 s467 (fun z470 s469 => ((0 < z470) ∧ (0 ≤ R ∧ R < 90) ∧ (∀ s473, s473 = wpa s469 608 R (z466.tdiv z470) → ((0 < z470) ∧ (0 ≤ R ∧ R < 90) ∧ (∀ s476, s476 = wpa s473 609 R (z468.tdiv z470) → (W_addRoot_312 s476 Q)))))))))))))))))))))))))))))))))) := by
  obtain ⟨E, hE⟩ : ∃ E : Nat, e = E := ⟨e.toNat, by omega⟩
  subst hE
  rw [Int.toNat_natCast] at hw
  have lb := lead_b hP.1
  rw [← hL] at lb
  have gP := hP.1.1
  have l1 := lim_one
  have lh := hbd_lim hb
  have lh1 := hbd_lim hb1
  have lL : lim L ≤ 2 := lim_b9 (by omega) (by omega)
  have q1 : lim (2 ^ E) ≤ 25 := by
    have := lim_p2 E
    omega
  have q2 : ((E : Int) + 40) * (lim (2 ^ E) + 3) ≤ 700 * 28 := by
    have b' : (E + 40) * (lim (2 ^ E) + 3) ≤ 700 * 28 := Nat.mul_le_mul (by omega) (by omega)
    exact Int.ofNat_le.2 b'
  have T0 : (0 : Int) < 2 ^ E := Int.pow_pos (by decide)
  refine powerOfTwo_ok h0 (by omega) (by omega) (fun s1 a1 a2 a3 => ?_)
  refine whole_ok ⟨by decide, by decide⟩ (by omega) (by omega) (fun s2 b1 b2 b3 => ?_)
  have st2 := st_tr a1 b1
  have b12 := b1.2
  refine plus_ok (st_nm st2 hx) b2 (by omega) (by omega) (fun s3 c1 c2 c3 => ?_)
  have st3 := st_tr st2 c1
  have c12 := c1.2
  have m1 := lim_mul (h + 1) L
  refine by_ok c2 (st_nm st3 hx6) (by omega) (by omega) (fun s4 d1 d2 d3 => ?_)
  have st4 := st_tr st3 d1
  have d12 := d1.2
  have two4 := st_nm d1 (st_nm c1 (st_nm b1 a2))
  have m2 : lim ((h + 1) * L / 2 ^ E) ≤ lim ((h + 1) * L) := lim_mono (div_b T0)
  refine over_ok d2 two4 T0 (by omega) (by omega) (fun s5 e1 e2 e3 => ?_)
  have st5 := st_tr st4 e1
  have e12 := e1.2
  obtain ⟨m, hm'⟩ : ∃ m, m = (h + 1) * L / 2 ^ E := ⟨_, rfl⟩
  rw [← hm'] at e2 e3 m2
  have m3 := lim_mul m (2 ^ E)
  refine by_ok e2 (st_nm e1 two4) (by omega) (by omega) (fun s6 f1 f2 f3 => ?_)
  have st6 := st_tr st5 f1
  have f12 := f1.2
  have m4 := lim_mul h L
  refine by_ok (st_nm st6 hx) (st_nm st6 hx6) (by omega) (by omega) (fun s7 g1 g2 g3 => ?_)
  have st7 := st_tr st6 g1
  have g12 := g1.2
  refine compare_ok (st_nm g1 f2).1 g2.1 (fun v hv => ?_)
  -- what the candidate is
  have wp := wd_pos (E : Int)
  have wn := wd_nat E
  have Lp : (0 : Rat) < (L : Rat) := Rat.intCast_pos.2 lb.1
  have cand : ∀ x : Rat, pev P x = 0 → (h : Rat) * wd E < x → x ≤ ((h : Rat) + 1) * wd E → (m : Rat) = (L : Rat) * x ∧ h * L < m * 2 ^ E := by
    intro x hx0 hx1 hx2
    obtain ⟨M, hM⟩ := lead_frac gP.2.2.1 gP.1 hx0
    rw [← hL] at hM
    have two : ((2 ^ E : Int) : Rat) = (2 : Rat) ^ E := by rw [Rat.intCast_pow]; rfl
    have tp : (0 : Rat) < (2 : Rat) ^ E := by have := rpow_ge1 (X := 2) (by grind) E; grind
    -- x 2^E between h and h + 1
    have x1 : (h : Rat) < x * (2 : Rat) ^ E := by
      have : 0 < (x - (h : Rat) * wd E) * (2 : Rat) ^ E := Rat.mul_pos (by grind) tp
      have e9 : (h : Rat) * wd E * (2 : Rat) ^ E = (h : Rat) * (wd E * (2 : Rat) ^ E) := by grind
      rw [wn] at e9
      grind
    have x2 : x * (2 : Rat) ^ E ≤ (h : Rat) + 1 := by
      have : 0 ≤ (((h : Rat) + 1) * wd E - x) * (2 : Rat) ^ E := Rat.mul_nonneg (by grind) (by grind)
      have e9 : ((h : Rat) + 1) * wd E * (2 : Rat) ^ E = ((h : Rat) + 1) * (wd E * (2 : Rat) ^ E) := by grind
      rw [wn] at e9
      grind
    have y1 : h * L < M * 2 ^ E := by
      refine Rat.intCast_lt_intCast.1 ?_
      rw [Rat.intCast_mul, Rat.intCast_mul, two, hM]
      have : 0 < (x * (2 : Rat) ^ E - (h : Rat)) * (L : Rat) := Rat.mul_pos (by grind) Lp
      grind
    have y2 : M * 2 ^ E ≤ (h + 1) * L := by
      refine Rat.intCast_le_intCast.1 ?_
      rw [Rat.intCast_mul, Rat.intCast_mul, two, hM, Rat.intCast_add, rat_i1]
      have : 0 ≤ ((h : Rat) + 1 - x * (2 : Rat) ^ E) * (L : Rat) := Rat.mul_nonneg (by grind) (by grind)
      grind
    have y3 : M ≤ m := by
      rw [hm']
      exact (Int.le_ediv_iff_mul_le T0).2 y2
    have y4 : m ≤ M := by
      refine Int.le_of_lt_add_one ?_
      rw [hm']
      refine Int.ediv_lt_of_lt_mul T0 ?_
      have z1 : (h + 1) * L = h * L + L := by rw [Int.add_mul, Int.one_mul]
      have z2 : (M + 1) * 2 ^ E = M * 2 ^ E + 2 ^ E := by rw [Int.add_mul, Int.one_mul]
      omega
    have ym : m = M := by omega
    exact ⟨by rw [ym]; exact hM, by rw [ym]; exact y1⟩
  have arf : ∀ s', st s s' → ar (wgf s0 24) R s0 s' := fun s' h' => ar_tr hs (st_ar h' hl0)
  have keep : ∀ s', st s s' → num s' (700000 - 200 * (R + 1)) h := fun s' h' => by
    have z := num_ag gnum h'.1 (Or.inr (by omega))
    exact z
  have nofrac : ∀ s', st s s' → wgf s' 24 ≤ wgf s 24 + 300 → (∀ x : Rat, pev P x = 0 → ¬ ((h : Rat) * wd E < x ∧ x ≤ ((h : Rat) + 1) * wd E)) → Q s' := fun s' h' ht hno => by
    refine hQ s' (arf s' h') (by rw [ag_f h'.1 (by decide) (by decide)]; exact h41) (by rw [ag_f h'.1 (by decide) (by decide)]; exact h52) h'.2 ht ⟨by rw [st_row h' (by decide)]; exact g607, by rw [st_row h' (by decide)]; exact g611, h, E, by rw [st_row h' (by decide)]; exact g612, keep s' h', by omega, he, hb, hb1, hVf, hsub.1, hsub.2.1, hsub.2.2, Or.inl ⟨by rw [st_row h' (by decide)]; exact g609, hno⟩⟩
  have sg1 := sg_c (m * 2 ^ E - h * L)
  unfold W_addRoot_312
  refine ⟨fun c4 => nofrac s7 st7 (by omega) (fun x hx0 hx1 => ?_), fun c4 => ⟨hb0, ?_⟩⟩
  · have := (cand x hx0 hx1.1 hx1.2).2
    rw [hv] at c4
    split at c4
    · omega
    · omega
  · have ins : h * L < m * 2 ^ E := by
      rw [hv] at c4
      split at c4
      · exact absurd rfl c4
      · omega
    rw [st_row st7 (by decide)]
    have pf7 := st_pol st7 hf
    have e7 : nm s7 (wgf s4 24) m := st_nm (st_tr f1 g1) e2
    refine signAt2_ok (K := 32) pf7 (pab_lb (fct_pab hP.1)) gP.1 e7 (st_nm st7 hx6) (by omega) (by omega) (by omega) (by omega) (fun s8 k1 => ?_)
    have st8 := st_tr st7 k1.1
    have k12 := k1.2
    rw [psg_ev gP.1 lb.1]
    refine ⟨fun c5 => nofrac s8 st8 (by omega) (fun x hx0 hx1 => ?_), fun c5 => ?_⟩
    · refine c5 ?_
      have cc := (cand x hx0 hx1.1 hx1.2).1
      have ex : (m : Rat) / (L : Rat) = x := by
        have e9 := Rat.div_mul_cancel (a := (m : Rat)) (b := (L : Rat)) (by grind)
        have w : ((m : Rat) / L - x) * L = 0 := by grind
        rcases Rat.mul_eq_zero.1 w with q | q
        · grind
        · grind
      rw [ex, hx0]
      decide
    · have hx0 : pev P ((m : Rat) / (L : Rat)) = 0 := by
        rcases rsg_c (pev P ((m : Rat) / (L : Rat))) with ⟨w, _⟩ | ⟨_, w⟩ | ⟨_, w⟩
        · exact w
        · omega
        · omega
      obtain ⟨x, hxx⟩ : ∃ x, x = (m : Rat) / (L : Rat) := ⟨_, rfl⟩
      rw [← hxx] at hx0
      have mx : (m : Rat) = (L : Rat) * x := by
        have e9 := Rat.div_mul_cancel (a := (m : Rat)) (b := (L : Rat)) (by grind)
        rw [hxx]; grind
      have fb := frac_b hP.1 hx0
      have two : ((2 ^ E : Int) : Rat) = (2 : Rat) ^ E := by rw [Rat.intCast_pow]; rfl
      have tp : (0 : Rat) < (2 : Rat) ^ E := by have := rpow_ge1 (X := 2) (by grind) E; grind
      have mb : -9000000000000000000 ≤ m ∧ m ≤ 9000000000000000000 := by
        have Lb : (L : Rat) ≤ 1000000000 := by
          have := Rat.intCast_le_intCast.2 lb.2
          have e9 : ((1000000000 : Int) : Rat) = 1000000000 := rfl
          rw [e9] at this
          exact this
        have r1 : rb (m : Rat) (1000000000 * 2147483648) := by
          rw [mx]
          exact rb_mul ⟨by grind, Lb⟩ ⟨by have := fb.2.2.1; grind, by have := fb.2.2.2; grind⟩
        have r2 := r1.1
        have r3 := r1.2
        constructor
        · refine Rat.intCast_le_intCast.1 ?_
          have e9 : ((-9000000000000000000 : Int) : Rat) = -9000000000000000000 := rfl
          rw [e9]; grind
        · refine Rat.intCast_le_intCast.1 ?_
          have e9 : ((9000000000000000000 : Int) : Rat) = 9000000000000000000 := rfl
          rw [e9]; grind
      refine valueOf_ok (st_nm k1.1 e7).1 (by omega) (valueOf_ok (st_nm st8 hx6).1 (by omega) (divisor_ok mb ⟨lb.1, by omega⟩ ?_))
      have gpos : (0 : Int) < (Int.gcd m L : Int) := by
        have : 0 < Int.gcd m L := Int.gcd_pos_of_ne_zero_right _ (by omega)
        omega
      obtain ⟨ft1, ft2⟩ := frac_terms lb.1 mx
      rw [ft1, ft2]
      refine ⟨gpos, ⟨hR.1, by omega⟩, fun s9 e9 => ⟨gpos, ⟨hR.1, by omega⟩, fun s10 e10 => ?_⟩⟩
      have n10 : num s10 (700000 - 200 * (R + 1)) h := by
        rw [e10, e9]
        have z := keep s8 st8
        exact num_co z z.1 z.2.1 (fun t _ _ => by rw [wg_row (by decide), wg_row (by decide)])
      have x1 : (h : Rat) * wd E < x := by
        refine Classical.byContradiction fun n => ?_
        have z1 := Rat.intCast_lt_intCast.2 ins
        rw [Rat.intCast_mul, Rat.intCast_mul, two, mx] at z1
        have z2 : 0 ≤ ((h : Rat) * wd E - x) * ((2 : Rat) ^ E * (L : Rat)) := Rat.mul_nonneg (by grind) (Rat.mul_nonneg (by grind) (by grind))
        have z3 : (h : Rat) * wd E * ((2 : Rat) ^ E * (L : Rat)) = (h : Rat) * (L : Rat) * (wd E * (2 : Rat) ^ E) := by grind
        rw [wn] at z3
        grind
      have x2 : x ≤ ((h : Rat) + 1) * wd E := by
        refine Classical.byContradiction fun n => ?_
        have y2 : m * 2 ^ E ≤ (h + 1) * L := by
          rw [hm']
          exact Int.ediv_mul_le _ (by omega)
        have z1 := Rat.intCast_le_intCast.2 y2
        rw [Rat.intCast_mul, Rat.intCast_mul, two, mx, Rat.intCast_add, rat_i1] at z1
        have z2 : 0 < (x - ((h : Rat) + 1) * wd E) * ((2 : Rat) ^ E * (L : Rat)) := Rat.mul_pos (by grind) (Rat.mul_pos tp Lp)
        have z3 : ((h : Rat) + 1) * wd E * ((2 : Rat) ^ E * (L : Rat)) = ((h : Rat) + 1) * (L : Rat) * (wd E * (2 : Rat) ^ E) := by grind
        rw [wn] at z3
        grind
      refine hQ s10 (by rw [e10, e9]; exact ar_pa (ar_pa (arf s8 st8) hR.1 (by decide)) hR.1 (by decide)) ?_ ?_ ?_ ?_ ⟨?_, ?_, h, E, ?_, n10, by omega, he, hb, hb1, hVf, hsub.1, hsub.2.1, hsub.2.2, Or.inr ⟨x, hx0, x1, x2, ?_, ?_⟩⟩
      · rw [e10, wf_pa, e9, wf_pa, ag_f st8.1 (by decide) (by decide)]; exact h41
      · rw [e10, wf_pa, e9, wf_pa, ag_f st8.1 (by decide) (by decide)]; exact h52
      · rw [e10, wf_pa, e9, wf_pa]; exact st8.2
      · rw [e10, wf_pa, e9, wf_pa]; omega
      · rw [e10, wg_row (by decide), e9, wg_row (by decide), st_row st8 (by decide)]; exact g607
      · rw [e10, wg_row (by decide), e9, wg_row (by decide), st_row st8 (by decide)]; exact g611
      · rw [e10, wg_row (by decide), e9, wg_row (by decide), st_row st8 (by decide)]; exact g612
      · rw [e10, wg_row (by decide), e9]; exact wg_same
      · rw [e10]; exact wg_same
