/-! findRoots BY CUTS: every turn of the base lies in one of the intervals -/
def ccl (c : Nat → List Int) (N : Nat) (P : List Int) (Lmin Lf : Rat) (k : Nat) (lf rf : Nat → Rat) : Prop := (∀ y : Rat → Int, cut y → rtc P y → y Lmin = 1 → y Lf ≠ 1 → ∃ r : Nat, r < k ∧ y (lf r) = 1 ∧ y (rf r) ≠ 1) ∧ ∀ r : Nat, r < k → vst c (N - 1) (lf r) - vst c (N - 1) (rf r) = 1
theorem ccl_0 {c : Nat → List Int} {N k : Nat} {P : List Int} {Lmin Lf : Rat} {lf rf : Nat → Rat} {h e : Int} (hst : stu c (N - 1)) (hc0 : c 0 = P) (hi : ccl c N P Lmin Lf k lf rf) (v0 : Lf = (h : Rat) * wd e ∧ vfall c N h e = 0) : ccl c N P Lmin (((h : Rat) + 1) * wd e) k lf rf := ⟨fun y cy ty y1 y2 => by
  by_cases q : y Lf = 1
  · exfalso
    have w := sturm_cut hst cy (by rw [hc0]; exact ty) (l := (h : Rat) * wd e) (r := ((h : Rat) + 1) * wd e) (by rw [← v0.1]; exact q) y2
    have z := v0.2
    unfold vfall at z
    omega
  · exact hi.1 y cy ty y1 q, hi.2⟩
theorem ccl_1 {c : Nat → List Int} {N k : Nat} {P : List Int} {Lmin Lf r1 : Rat} {lf rf lf' rf' : Nat → Rat} (hi : ccl c N P Lmin Lf k lf rf) (hl1 : lf' k = Lf) (hr1 : rf' k = r1) (hl2 : ∀ i, i ≠ k → lf' i = lf i) (hr2 : ∀ i, i ≠ k → rf' i = rf i) (hv : vst c (N - 1) Lf - vst c (N - 1) r1 = 1) : ccl c N P Lmin r1 (k + 1) lf' rf' := ⟨fun y cy ty y1 y2 => by
  by_cases q : y Lf = 1
  · exact ⟨k, by omega, by rw [hl1]; exact q, by rw [hr1]; exact y2⟩
  · obtain ⟨r, a1, a2, a3⟩ := hi.1 y cy ty y1 q
    exact ⟨r, by omega, by rw [hl2 r (by omega)]; exact a2, by rw [hr2 r (by omega)]; exact a3⟩, fun r hr => by
  by_cases q : r = k
  · rw [q, hl1, hr1]; exact hv
  · rw [hl2 r q, hr2 r q]; exact hi.2 r (by omega)⟩
theorem findRoots_191c {s1 : im_S} {b l2 l3 B : Int} {c : Nat → List Int} {N R0 D : Nat} {M : Int} {P : List Int} {Lmin Rend : Rat} {H0 E0 : Nat → Int} {Q : im_S → Prop} (hb0 : 0 ≤ b ∧ b < 200) (hf : pol s1 (wga s1 602 b) P) (hP : bs P) (hc0 : c 0 = P) (hst : stu c (N - 1)) (hN : 1 ≤ N) (hch : chn s1 c N 56) (hR : R0 + D ≤ 80) (hM : 0 ≤ M ∧ M ≤ 92) (h41 : wgf s1 41 = R0) (h52 : wgf s1 52 = R0) (hp : ∀ i : Nat, i < 2 → pen s1 M i (H0 i) (E0 i)) (hcon : ((H0 1 : Rat) + 1) * wd (E0 1) = (H0 0 : Rat) * wd (E0 0)) (hL : Lmin = (H0 1 : Rat) * wd (E0 1)) (hRe : ((H0 0 : Rat) + 1) * wd (E0 0) = Rend) (hD : sm 2 (fun i => vfall c N (H0 i) (E0 i)) ≤ D) (h0 : 0 ≤ wgf s1 24) (hB : sm 2 (fun i => mbu (E0 i) (vfall c N (H0 i) (E0 i))) = B) (hm : wgf s1 24 + B + 70000 ≤ 684000) (hX : ∀ (s2 : im_S) (k : Nat) (lf rf : Nat → Rat), fwr (wgf s1 24) R0 s1 s2 → wgf s1 24 ≤ wgf s2 24 → wgf s2 24 ≤ wgf s1 24 + B → k ≤ D → rtl c N s2 R0 b P Lmin Rend k lf rf → ccl c N P Lmin Rend k lf rf → chn s2 c N 56 → pol s2 (wga s2 602 b) P → W_restRoots b (R0 : Int) s2 (fun s224 => wloop (fun (K : Int × Int × im_S → Prop) (a : Int × Int × im_S) => W_findRoots_358 K l2 l3 (R0 : Int) a.1 a.2.1 a.2.2 Q) (-2, (R0 : Int), s224))) : wloop (fun (K : Int × im_S → Prop) (a : Int × im_S) => W_findRoots_191 K b l2 l3 (R0 : Int) a.1 a.2 Q) (2, s1) := by
  refine ⟨fun a => ∃ (n k : Nat) (H E : Nat → Int) (lf rf : Nat → Rat) (Lf : Rat), a.1 = n ∧ fwr (wgf s1 24) R0 s1 a.2 ∧ wgf s1 24 ≤ wgf a.2 24 ∧ chn a.2 c N 56 ∧ pol a.2 (wga a.2 602 b) P ∧ (∀ i : Nat, i < n → pen a.2 M i (H i) (E i)) ∧ (∀ i : Nat, i + 1 < n → ((H (i + 1) : Rat) + 1) * wd (E (i + 1)) = (H i : Rat) * wd (E i)) ∧ ((n = 0 ∧ Lf = Rend) ∨ (∃ t, n = t + 1 ∧ Lf = (H t : Rat) * wd (E t) ∧ ((H 0 : Rat) + 1) * wd (E 0) = Rend)) ∧ rtl c N a.2 R0 b P Lmin Lf k lf rf ∧ (k : Int) + sm n (fun i => vfall c N (H i) (E i)) ≤ D ∧ wgf a.2 24 + sm n (fun i => mbu (E i) (vfall c N (H i) (E i))) ≤ wgf s1 24 + B ∧ Lmin ≤ Lf ∧ ccl c N P Lmin Lf k lf rf, fun a => rks a.2 a.1.toNat, ⟨2, 0, H0, E0, fun _ => 0, fun _ => 0, Lmin, rfl, fwr_rfl, Int.le_refl _, hch, hf, hp, ?_, Or.inr ⟨1, rfl, hL, hRe⟩, ⟨h41, h52, fun r hr => by omega, fun r r' _ hr => by omega, fun y _ y1 y2 => absurd y1 (Rat.not_lt.2 y2)⟩, by omega, by (try dsimp only); omega, Rat.le_refl, fun y _ _ y1 y2 => absurd y1 y2, fun r hr => by omega⟩, ?_⟩
  · intro i hi
    have ei : i = 0 := by omega
    subst ei
    exact hcon
  rintro ⟨n0, s2⟩ ⟨n, k, H, E, lf, rf, Lf, i1, i2, i3, i4, i5, i6, i7, i8, i9, i10, i11, i12, i13⟩
  dsimp only at i1 i2 i3 i4 i5 i6 i7 i8 i9 i10 i11 i12 i13 ⊢
  subst i1
  have vn : ∀ i : Nat, 0 ≤ vfall c N (H i) (E i) := fun i => vf_nn hst _ _
  unfold W_findRoots_191
  refine ⟨fun q => ?_, fun q => ?_⟩
  · have en : n = 0 := by omega
    subst en
    rcases i8 with ⟨_, w⟩ | ⟨t, w, _⟩
    · rw [w] at i9 i13
      have z0 : sm 0 (fun i => vfall c N (H i) (E i)) = 0 := rfl
      have z1 : sm 0 (fun i => mbu (E i) (vfall c N (H i) (E i))) = 0 := rfl
      exact hX s2 k lf rf i2 i3 (by omega) (by omega) i9 i13 i4 i5
    · omega
  · obtain ⟨t, ht⟩ : ∃ t, n = t + 1 := ⟨n - 1, by omega⟩
    subst ht
    obtain ⟨fr1, fr2⟩ : Lf = (H t : Rat) * wd (E t) ∧ ((H 0 : Rat) + 1) * wd (E 0) = Rend := by
      rcases i8 with ⟨w, _⟩ | ⟨t', w, w2, w3⟩
      · omega
      · have et : t' = t := by omega
        subst et
        exact ⟨w2, w3⟩
    obtain ⟨p1, p2, p3, p4, p5, p6, p7, p8⟩ := i6 t (by omega)
    have sv : sm (t + 1) (fun i => vfall c N (H i) (E i)) = sm t (fun i => vfall c N (H i) (E i)) + vfall c N (H t) (E t) := rfl
    have sb' : sm (t + 1) (fun i => mbu (E i) (vfall c N (H i) (E i))) = sm t (fun i => mbu (E i) (vfall c N (H i) (E i))) + mbu (E t) (vfall c N (H t) (E t)) := rfl
    have nnv : ∀ m : Nat, 0 ≤ sm m (fun i => vfall c N (H i) (E i)) := fun m => by
      induction m with
      | zero => exact Int.le_refl 0
      | succ m ih =>
        have := vn m
        show 0 ≤ sm m (fun i => vfall c N (H i) (E i)) + vfall c N (H m) (E m)
        omega
    have nnb : ∀ m : Nat, m ≤ t + 1 → 0 ≤ sm m (fun i => mbu (E i) (vfall c N (H i) (E i))) := fun m => by
      induction m with
      | zero => intro _; exact Int.le_refl 0
      | succ m ih =>
        intro hmm
        have a1 := mbu_nn (e := E m) (v := vfall c N (H m) (E m)) (by have := (i6 m (by omega)).2.2.2.2.2.2.1; omega) (vn m)
        have a2 := ih (by omega)
        have a3 := vn m
        show 0 ≤ sm m (fun i => mbu (E i) (vfall c N (H i) (E i))) + mbu (E m) (vfall c N (H m) (E m))
        omega
    have nv := nnv t
    have nb := nnb t (by omega)
    have vt := vn t
    have mt := mbu_nn (e := E t) (v := vfall c N (H t) (E t)) (by omega) vt
    rw [show ((t + 1 : Nat) : Int) + -1 = (t : Int) by omega, p3]
    obtain ⟨g41, g52, gr, go, gc⟩ := i9
    have l1 := lim_one
    have l2' : lim 2 = 1 := by decide
    have lh := hbd_lim p4
    have lh1 := hbd_lim p5
    refine ⟨⟨by omega, by omega⟩, half_ok i4 hN p1 p4 (by omega) (by omega) (fun s3 a1 => ?_)⟩
    have a12 := a1.2
    refine whole_ok ⟨by decide, by decide⟩ (by omega) (by omega) (fun s4 b1 b2 b3 => ?_)
    have st4 := st_tr a1.1 b1
    have b12 := b1.2
    refine plus_ok (st_nm st4 p1) b2 (by omega) (by omega) (fun s5 d1 d2 d3 => ?_)
    have st5 := st_tr st4 d1
    have d12 := d1.2
    refine half_ok (st_chn st5 i4) hN d2 p5 (by omega) (by omega) (fun s6 g1 => ?_)
    have st6 := st_tr st5 g1.1
    have g12 := g1.2
    have top6 : wgf s6 24 ≤ wgf s2 24 + 31 := by omega
    have e1 : (((H t + 1 : Int)) : Rat) * wd (E t) = ((H t : Rat) + 1) * wd (E t) := by rw [Rat.intCast_add, rat_i1]
    rw [e1]
    have vfd : vst c (N - 1) ((H t : Rat) * wd (E t)) - vst c (N - 1) (((H t : Rat) + 1) * wd (E t)) = vfall c N (H t) (E t) := rfl
    have fwr6 : fwr (wgf s1 24) R0 s1 s6 := fwr_tr i2 (st_fwr st6 i3 (by omega))
    have ch6 := st_chn st6 i4
    have po6 : pol s6 (wga s6 602 b) P := by rw [st_row st6 (by decide)]; exact st_pol st6 i5
    have pe6 : ∀ i : Nat, i < t + 1 → pen s6 M i (H i) (E i) := fun i hi => pen_st st6 (i6 i hi)
    have k79 : ∀ r : Nat, r < k → ((R0 + r : Nat) : Int) ≤ 79 := fun r hr => by omega
    have rt6 : ∀ r : Nat, r < k → rt1 c N s6 ((R0 + r : Nat) : Int) b P (lf r) (rf r) := fun r hr => rt1_st st6 (k79 r hr) (gr r hr).1
    have f41 : wgf s6 41 = ((R0 + k : Nat) : Int) := by rw [ag_f st6.1 (by decide) (by decide)]; exact g41
    have f52 : wgf s6 52 = ((R0 + k : Nat) : Int) := by rw [ag_f st6.1 (by decide) (by decide)]; exact g52
    have Lle : Lf ≤ ((H t : Rat) + 1) * wd (E t) := by rw [fr1]; exact ws (wd_pos _)
    -- the new frontier behind the popped interval
    have front : (t = 0 ∧ ((H t : Rat) + 1) * wd (E t) = Rend) ∨ (∃ t', t = t' + 1 ∧ ((H t : Rat) + 1) * wd (E t) = (H t' : Rat) * wd (E t') ∧ ((H 0 : Rat) + 1) * wd (E 0) = Rend) := by
      cases t with
      | zero => exact Or.inl ⟨rfl, fr2⟩
      | succ t' => exact Or.inr ⟨t', rfl, i7 t' (by omega), fr2⟩
    have e616 : ∀ i : Nat, wga s6 616 i = wga s2 616 i := fun i => st_row st6 (by decide)
    have rk6 : ∀ m : Nat, rks s6 m = rks s2 m := fun m => rks_co (fun i _ => e616 i)
    have pw1 : 1 ≤ 2 ^ (622 - wga s2 616 t).toNat - 1 := by
      rw [p3]
      obtain ⟨j, hj⟩ : ∃ j, (622 - E t).toNat = j + 1 := ⟨(622 - E t).toNat - 1, by omega⟩
      rw [hj, Nat.pow_succ]
      have : 1 ≤ 2 ^ j := Nat.one_le_two_pow
      omega
    have rkt : rks s2 (t + 1) = rks s2 t + (2 ^ (622 - wga s2 616 t).toNat - 1) := rfl
    rw [show (((t + 1 : Nat) : Int)).toNat = t + 1 by omega]
    rw [vfd]
    refine ⟨⟨by omega, by omega⟩, fun c1 => ⟨fun c2 => ?_, fun c2 => ?_⟩, fun c1 => ?_⟩
    · -- no root
      unfold W_findRoots_340
      have v0 : vfall c N (H t) (E t) = 0 := by omega
      refine ⟨⟨t, k, H, E, lf, rf, ((H t : Rat) + 1) * wd (E t), rfl, fwr6, by (try dsimp only); omega, ch6, po6, fun i hi => pe6 i (by omega), fun i hi => i7 i (by omega), front, ⟨f41, f52, fun r hr => ⟨rt6 r hr, (gr r hr).2.1, Rat.le_trans (gr r hr).2.2 Lle⟩, go, fun y hy y1 y2 => ?_⟩, by omega, by (try dsimp only); omega, Rat.le_trans i12 Lle, ccl_0 hst hc0 i13 ⟨fr1, v0⟩⟩, ?_⟩
      · by_cases cy : y ≤ Lf
        · exact gc y hy y1 cy
        · exfalso
          have w := sturm_root hst (a := (H t : Rat) * wd (E t)) (b := ((H t : Rat) + 1) * wd (E t)) (r := y) (by rw [← fr1]; exact Rat.not_le.1 cy) y2 (by rw [hc0]; exact hy)
          omega
      · try dsimp only
        rw [Int.toNat_natCast, rk6]
        omega
    · -- two or more
      have e619 := deep hst (by rw [hc0]; exact hP) p7 (show 2 ≤ vfall c N (H t) (E t) by omega)
      obtain ⟨bd1, bd2⟩ := hbd_2 p4 (by omega)
      have bd2' := bd2 p5
      have bd3 : hbd (H t * 2 + 1 + 1) (E t + 1) := by
        have z := (hbd_2 p5 (by omega)).1
        rw [show H t * 2 + 1 + 1 = (H t + 1) * 2 by omega]
        exact z
      have lA := hbd_lim bd1
      have lB := hbd_lim bd2'
      have vs := vf_split (c := c) (N := N) (H t) (E t)
      have va := vf_nn hst (N := N) (H t * 2) (E t + 1)
      have vb := vf_nn hst (N := N) (H t * 2 + 1) (E t + 1)
      have ms := mbu_split (e := E t) (v := vfall c N (H t) (E t)) (v1 := vfall c N (H t * 2 + 1) (E t + 1)) (v2 := vfall c N (H t * 2) (E t + 1)) e619 (by omega) vb va (by omega)
      have x6 : nm s6 (wga s2 615 t) (H t) := st_nm st6 p1
      refine whole_ok ⟨by decide, by decide⟩ (by omega) (by omega) (fun s7 h1 h2 h3 => ?_)
      have h12 := h1.2
      refine by_ok (st_nm h1 x6) h2 (by omega) (by omega) (fun s8 m1 m2 m3 => ?_)
      have m12 := m1.2
      refine whole_ok ⟨by decide, by decide⟩ (by omega) (by omega) (fun s9 o1 o2 o3 => ?_)
      have o12 := o1.2
      refine plus_ok (st_nm o1 m2) o2 (by omega) (by omega) (fun s10 r1 r2 r3 => ⟨⟨by omega, by omega⟩, fun s11 e11 => ⟨⟨by omega, by omega⟩, ⟨by omega, by omega⟩, fun s12 e12 => ⟨⟨by omega, by omega⟩, fun s13 e13 => ⟨⟨by omega, by omega⟩, ⟨by omega, by omega⟩, fun s14 e14 => ⟨⟨by omega, by omega⟩, ?_⟩⟩⟩⟩⟩)
      have st610 := st_tr h1 (st_tr m1 (st_tr o1 r1))
      have r12 := r1.2
      unfold W_findRoots_340
      have t14 : wgf s14 24 = wgf s10 24 := by rw [e14, wf_pa, e13, wf_pa, e12, wf_pa, e11, wf_pa]
      have n14 : ∀ y Y : Int, nm s10 y Y → nm s14 y Y := fun y Y w => by
        rw [e14, e13, e12, e11]; exact nm_row (by decide) (nm_row (by decide) (nm_row (by decide) (nm_row (by decide) w)))
      have r14 : ∀ (r : Nat) (i : Int), r ≠ 615 → r ≠ 616 → wga s14 r i = wga s10 r i := fun r i q1 q2 => by
        rw [e14, wg_row q2, e13, wg_row q1, e12, wg_row q2, e11, wg_row q1]
      have fwr14 : fwr (wgf s1 24) R0 s1 s14 := by
        rw [e14, e13, e12, e11]
        exact fwr_pa (fwr_pa (fwr_pa (fwr_pa (fwr_tr fwr6 (st_fwr st610 (by omega) (by omega))) (Or.inl rfl)) (Or.inr rfl)) (Or.inl rfl)) (Or.inr rfl)
      have pl14 : ∀ (f : Int) (P : List Int), pol s10 f P → pol s14 f P := fun f P w => by
        rw [e14, e13, e12, e11]
        exact pol_pa (by decide) (by decide) (by decide) (pol_pa (by decide) (by decide) (by decide) (pol_pa (by decide) (by decide) (by decide) (pol_pa (by decide) (by decide) (by decide) w)))
      have ch14 : chn s14 c N 56 := by
        have z := st_chn st610 ch6
        refine ⟨by rw [e14, wf_pa, e13, wf_pa, e12, wf_pa, e11, wf_pa]; exact z.1, z.2.1, fun j hj => ?_⟩
        rw [r14 600 _ (by decide) (by decide)]
        exact ⟨pl14 _ _ (z.2.2 j hj).1, (z.2.2 j hj).2⟩
      have po14 : pol s14 (wga s14 602 b) P := by
        rw [r14 602 _ (by decide) (by decide), st_row st610 (by decide)]
        exact pl14 _ _ (st_pol st610 po6)
      have pe14 : ∀ i : Nat, i < t → pen s14 M i (H i) (E i) := fun i hi => by
        rw [e14, e13, e12, e11]
        exact pen_pa (Or.inr rfl) (by omega) (by omega) (pen_pa (Or.inl rfl) (by omega) (by omega) (pen_pa (Or.inr rfl) (by omega) (by omega) (pen_pa (Or.inl rfl) (by omega) (by omega) (pen_st st610 (pe6 i (by omega))))))
      have w615t : wga s14 615 (t : Int) = wgf s9 24 := by
        rw [e14, wg_row (by decide), e13, wg_ne (by omega) (by omega) (by omega), e12, wg_row (by decide), e11]; exact wg_same
      have w616t : wga s14 616 (t : Int) = E t + 1 := by
        rw [e14, wg_ne (by omega) (by omega) (by omega), e13, wg_row (by decide), e12]; exact wg_same
      have w615u : wga s14 615 ((t : Int) + 1) = wgf s7 24 := by
        rw [e14, wg_row (by decide), e13]; exact wg_same
      have w616u : wga s14 616 ((t : Int) + 1) = E t + 1 := by rw [e14]; exact wg_same
      have w616o : ∀ i : Nat, i < t → wga s14 616 i = wga s2 616 i := fun i hi => by
        rw [e14, wg_ne (by omega) (by omega) (by omega), e13, wg_row (by decide), e12, wg_ne (by omega) (by omega) (by omega), e11, wg_row (by decide), st_row st610 (by decide)]
        exact e616 i
      obtain ⟨H', hH1, hH2, hH3⟩ : ∃ H' : Nat → Int, H' t = H t * 2 + 1 ∧ H' (t + 1) = H t * 2 ∧ ∀ i, i < t → H' i = H i := ⟨fun i => if i = t then H t * 2 + 1 else if i = t + 1 then H t * 2 else H i, by (try dsimp only); rw [if_pos rfl], by (try dsimp only); rw [if_neg (by omega), if_pos rfl], fun i hi => by (try dsimp only); rw [if_neg (by omega), if_neg (by omega)]⟩
      obtain ⟨E', hE1, hE2, hE3⟩ : ∃ E' : Nat → Int, E' t = E t + 1 ∧ E' (t + 1) = E t + 1 ∧ ∀ i, i < t → E' i = E i := ⟨fun i => if i < t then E i else E t + 1, by (try dsimp only); rw [if_neg (by omega)], by (try dsimp only); rw [if_neg (by omega)], fun i hi => by (try dsimp only); rw [if_pos hi]⟩
      have pT : pen s14 M t (H' t) (E' t) := by
        rw [hH1, hE1]
        have z := n14 _ _ r2
        exact ⟨by rw [w615t]; exact z, by rw [w615t]; exact z.2, w616t, bd2', bd3, by omega, by omega, by omega⟩
      have pU : pen s14 M (t + 1) (H' (t + 1)) (E' (t + 1)) := by
        rw [hH2, hE2]
        have z := n14 _ _ (st_nm (st_tr o1 r1) m2)
        have ec : ((t + 1 : Nat) : Int) = (t : Int) + 1 := by omega
        unfold pen
        rw [ec, w615u, w616u]
        exact ⟨z, z.2, rfl, bd1, bd2', by omega, by omega, by omega⟩
      obtain ⟨w1, w2⟩ := wd_2 (H t) (E t)
      have smv : ∀ m, m ≤ t → sm m (fun i => vfall c N (H' i) (E' i)) = sm m (fun i => vfall c N (H i) (E i)) := fun m hm' => sm_co (fun i hi => by rw [hH3 i (by omega), hE3 i (by omega)])
      have smb : ∀ m, m ≤ t → sm m (fun i => mbu (E' i) (vfall c N (H' i) (E' i))) = sm m (fun i => mbu (E i) (vfall c N (H i) (E i))) := fun m hm' => sm_co (fun i hi => by rw [hH3 i (by omega), hE3 i (by omega)])
      have sv2 : sm (t + 2) (fun i => vfall c N (H' i) (E' i)) = sm t (fun i => vfall c N (H i) (E i)) + vfall c N (H t * 2 + 1) (E t + 1) + vfall c N (H t * 2) (E t + 1) := by
        show sm t (fun i => vfall c N (H' i) (E' i)) + vfall c N (H' t) (E' t) + vfall c N (H' (t + 1)) (E' (t + 1)) = _
        rw [smv t (Nat.le_refl _), hH1, hE1, hH2, hE2]
      have sb2 : sm (t + 2) (fun i => mbu (E' i) (vfall c N (H' i) (E' i))) = sm t (fun i => mbu (E i) (vfall c N (H i) (E i))) + mbu (E t + 1) (vfall c N (H t * 2 + 1) (E t + 1)) + mbu (E t + 1) (vfall c N (H t * 2) (E t + 1)) := by
        show sm t (fun i => mbu (E' i) (vfall c N (H' i) (E' i))) + mbu (E' t) (vfall c N (H' t) (E' t)) + mbu (E' (t + 1)) (vfall c N (H' (t + 1)) (E' (t + 1))) = _
        rw [smb t (Nat.le_refl _), hH1, hE1, hH2, hE2]
      have rt14 : ∀ r : Nat, r < k → rt1 c N s14 ((R0 + r : Nat) : Int) b P (lf r) (rf r) := fun r hr => by
        rw [e14, e13, e12, e11]
        exact rt1_pa (Or.inr rfl) (rt1_pa (Or.inl rfl) (rt1_pa (Or.inr rfl) (rt1_pa (Or.inl rfl) (rt1_st st610 (k79 r hr) (rt6 r hr)))))
      refine ⟨⟨t + 2, k, H', E', lf, rf, Lf, by (try dsimp only); omega, fwr14, by (try dsimp only); omega, ch14, po14, fun i hi => ?_, fun i hi => ?_, Or.inr ⟨t + 1, rfl, ?_, ?_⟩, ⟨?_, ?_, fun r hr => ⟨rt14 r hr, (gr r hr).2⟩, go, gc⟩, by omega, by (try dsimp only); omega, i12, i13⟩, ?_⟩
      · by_cases q1 : i < t
        · rw [hH3 i q1, hE3 i q1]; exact pe14 i q1
        · by_cases q2 : i = t
          · rw [q2]; exact pT
          · have q3 : i = t + 1 := by omega
            rw [q3]; exact pU
      · by_cases q1 : i + 1 < t
        · rw [hH3 i (by omega), hE3 i (by omega), hH3 (i + 1) q1, hE3 (i + 1) q1]
          exact i7 i (by omega)
        · by_cases q2 : i + 1 = t
          · rw [q2, hH1, hE1, hH3 i (by omega), hE3 i (by omega)]
            have z := i7 i (by omega)
            rw [q2] at z
            rw [← z, ← w2, Rat.intCast_add (H t * 2 + 1) 1, rat_i1]
          · have q3 : i = t := by omega
            rw [q3, hH2, hE2, hH1, hE1, Rat.intCast_add (H t * 2) 1, rat_i1]
      · rw [hH2, hE2, w1]; exact fr1
      · cases t with
        | zero =>
          rw [hH1, hE1, ← fr2, ← w2, Rat.intCast_add (H 0 * 2 + 1) 1, rat_i1]
        | succ t' =>
          rw [hH3 0 (by omega), hE3 0 (by omega)]; exact fr2
      · rw [e14, wf_pa, e13, wf_pa, e12, wf_pa, e11, wf_pa, ag_f st610.1 (by decide) (by decide)]; exact f41
      · rw [e14, wf_pa, e13, wf_pa, e12, wf_pa, e11, wf_pa, ag_f st610.1 (by decide) (by decide)]; exact f52
      · try dsimp only
        rw [show ((t : Int) + 2).toNat = t + 2 by omega]
        have z : rks s14 (t + 2) = rks s14 t + (2 ^ (622 - wga s14 616 t).toNat - 1) + (2 ^ (622 - wga s14 616 ((t + 1 : Nat) : Int)).toNat - 1) := rfl
        have ec : ((t + 1 : Nat) : Int) = (t : Int) + 1 := by omega
        rw [z, ec, w616t, w616u, rks_co (s := s2) (s' := s14) w616o, rkt, p3]
        obtain ⟨j, hj⟩ : ∃ j, (622 - E t).toNat = j + 1 := ⟨(622 - E t).toNat - 1, by omega⟩
        rw [hj, show (622 - (E t + 1)).toNat = j by omega, Nat.pow_succ]
        have : 1 ≤ 2 ^ j := Nat.one_le_two_pow
        omega
    · -- one root
      have x6 : nm s6 (wga s2 615 t) (H t) := st_nm st6 p1
      refine addRoot_ok (c := c) (N := N) hb0 po6 (fun j hj => (po6.2.2.2.2.2 j hj).2) hP hc0 hst hN ch6 (R := ((R0 + k : Nat) : Int)) ⟨by omega, by omega⟩ f41 f52 x6 x6.2 p4 p5 p7 c1 (by omega) (by omega) (fun s7 h1 h2 h3 h4 h5 h6 => ?_)
      unfold W_findRoots_340
      have Rb : (0 : Int) ≤ ((R0 + k : Nat) : Int) ∧ ((R0 + k : Nat) : Int) ≤ 79 := ⟨by omega, by omega⟩
      have w615 : ∀ i : Int, wga s7 616 i = wga s6 616 i := fun i => ar_r h1 (by decide) (by decide)
      have ch7 : chn s7 c N 56 := by
        refine ⟨by rw [ar_f h1 (by decide) (by decide) (by decide) (by decide)]; exact ch6.1, ch6.2.1, fun j hj => ?_⟩
        rw [ar_r h1 (by decide) (by decide)]
        have z := ch6.2.2 j hj
        exact ⟨ar_pol h1 Rb (by omega) h4 z.1 (fun i hi => (z.1.2.2.2.2.2 i hi).2), z.2⟩
      have po7 : pol s7 (wga s7 602 b) P := by
        rw [ar_r h1 (by decide) (by decide)]
        exact ar_pol h1 Rb (by omega) h4 po6 (fun i hi => (po6.2.2.2.2.2 i hi).2)
      obtain ⟨lf', hl1, hl2⟩ : ∃ lf' : Nat → Rat, lf' k = (H t : Rat) * wd (E t) ∧ ∀ i, i ≠ k → lf' i = lf i := ⟨fun i => if i = k then (H t : Rat) * wd (E t) else lf i, if_pos rfl, fun i hi => if_neg hi⟩
      obtain ⟨rf', hr1, hr2⟩ : ∃ rf' : Nat → Rat, rf' k = ((H t : Rat) + 1) * wd (E t) ∧ ∀ i, i ≠ k → rf' i = rf i := ⟨fun i => if i = k then ((H t : Rat) + 1) * wd (E t) else rf i, if_pos rfl, fun i hi => if_neg hi⟩
      refine ⟨⟨t, k + 1, H, E, lf', rf', ((H t : Rat) + 1) * wd (E t), rfl, fwr_tr fwr6 (ar_fwr h1 (by omega) Rb.2 (by omega) (by omega)), by (try dsimp only); omega, ch7, po7, fun i hi => pen_ar h1 Rb h4 (by omega) (pe6 i (by omega)), fun i hi => i7 i (by omega), front, ⟨?_, ?_, fun r hr => ?_, fun r r' h1' h2' => ?_, fun y hy y1 y2 => ?_⟩, by omega, by (try dsimp only); omega, Rat.le_trans i12 Lle, ccl_1 i13 (by rw [hl1, fr1]) hr1 hl2 hr2 (by rw [fr1]; exact c1)⟩, ?_⟩
      · (try dsimp only); rw [h2]; omega
      · (try dsimp only); rw [h3]; omega
      · by_cases q1 : r = k
        · rw [q1, hl1, hr1]
          refine ⟨h6, ?_, Rat.le_refl⟩
          rw [← fr1]
          exact i12
        · rw [hl2 r q1, hr2 r q1]
          have z := gr r (by omega)
          exact ⟨rt1_ar h1 (by omega) (by omega) Rb.2 (by omega) (rt6 r (by omega)), z.2.1, Rat.le_trans z.2.2 Lle⟩
      · by_cases q1 : r' = k
        · rw [q1, hl1, hr2 r (by omega), ← fr1]
          exact (gr r (by omega)).2.2
        · rw [hl2 r' q1, hr2 r (by omega)]
          exact go r r' h1' (by omega)
      · by_cases cy : y ≤ Lf
        · obtain ⟨r, z1, z2, z3⟩ := gc y hy y1 cy
          exact ⟨r, by omega, by rw [hl2 r (by omega)]; exact z2, by rw [hr2 r (by omega)]; exact z3⟩
        · exact ⟨k, by omega, by rw [hl1, ← fr1]; exact Rat.not_le.1 cy, by rw [hr1]; exact y2⟩
      · try dsimp only
        rw [Int.toNat_natCast, rks_co (s := s6) (s' := s7) (fun i _ => w615 i), rk6]
        omega
theorem farc_c {P : List Int} {n m : Nat} {G : Int} (hn : P.length = n + 1) (hL : 0 < pgt P n) (hk : ∀ i : Nat, i < n → (pgt P i).natAbs ≤ G.natAbs) (ge : (G.natAbs : Int) + pgt P n ≤ 2 ^ m * pgt P n) : farc P (wd (-(m : Int))) := by
  have e1 : P.length - 1 = n := by omega
  have L0 : (0 : Rat) < (pgt P n : Rat) := by
    have := Rat.intCast_lt_intCast.2 hL
    exact this
  have A0 : (0 : Rat) ≤ ((G.natAbs : Int) : Rat) := by
    have := Rat.intCast_le_intCast.2 (show (0 : Int) ≤ (G.natAbs : Int) by omega)
    exact this
  have hX : ((G.natAbs : Int) : Rat) + (pgt P n : Rat) ≤ wd (-(m : Int)) * (pgt P n : Rat) := by
    rw [wd_ng]
    have := Rat.intCast_le_intCast.2 ge
    rw [Rat.intCast_add, Rat.intCast_mul] at this
    exact this
  refine fun X => ⟨(pgt P n : Rat) / 2, by grind, fun x _ hx hb => ?_⟩
  have z := cauchy L0 A0 hX hx P (by omega) (by rw [e1]) (fun k hk' => by
    have w := hk k (by omega)
    have u1 := Rat.intCast_le_intCast.2 (show -(G.natAbs : Int) ≤ pgt P k by omega)
    have u2 := Rat.intCast_le_intCast.2 (show pgt P k ≤ (G.natAbs : Int) by omega)
    rw [Rat.intCast_neg] at u1
    exact ⟨u1, u2⟩)
  obtain ⟨b1, b2⟩ := hb
  generalize pev P x = y at *
  generalize (pgt P n : Rat) = L at *
  rcases z with q | q <;> grind
theorem findRoots_okc {s : im_S} {b : Int} {R0 : Nat} {P : List Int} {Q : im_S → Prop} (hb0 : 0 ≤ b ∧ b < 200) (hf : pol s (wga s 602 b) P) (hP : bs P) (hR : R0 + P.length ≤ 81) (h41 : wgf s 41 = R0) (h52 : wgf s 52 = R0) (hp : wgf s 28 + 60 ≤ 1200) (h0 : 0 ≤ wgf s 24) (hm : wgf s 24 + 570000 ≤ 684000) (hQ : ∀ (s' : im_S) (c : Nat → List Int) (N k : Nat) (lf rf : Nat → Rat) (Lmin Rend : Rat) (f : Int) (F : List Int), fro (wgf s 24) (wgf s 28) R0 s s' → wgf s 28 ≤ wgf s' 28 ∧ wgf s' 28 ≤ wgf s 28 + 1 → wgf s 24 ≤ wgf s' 24 ∧ wgf s' 24 ≤ wgf s 24 + 40 → k + 1 ≤ P.length → stu c (N - 1) → c 0 = P → rtl c N s' R0 b P Lmin Rend k lf rf → (∀ y : Rat, pev P y = 0 → Lmin < y ∧ y ≤ Rend) → rsp c N s' R0 P lf rf k F → ((∀ r : Nat, r < k → wga s' 609 ((R0 + r : Nat) : Int) ≠ 0) ∨ pol s' f F) → (∀ r : Nat, r < k → wga s' 609 ((R0 + r : Nat) : Int) = 0 → rti s' ((R0 + r : Nat) : Int) f F (lf r) (rf r)) → pol s' (wga s' 602 b) P → ccl c N P Lmin Rend k lf rf → (∀ y : Rat → Int, cut y → rtc P y → y Lmin = 1 ∧ y Rend = -1) → Q s') : W_findRoots b s Q := by
  unfold W_findRoots
  obtain ⟨n, hn⟩ : ∃ n, P.length = n + 1 := ⟨P.length - 1, by have := hP.2.2.1; omega⟩
  have gP := hP.1.1
  have gP1 := gP.2.1
  have hL : 0 < pgt P n := by
    have z := gP.2.2.2.1
    rw [show P.length - 1 = n by omega] at z
    exact z
  have hab := fct_pab hP.1
  have f28 := hf.1
  have f28b := hf.2.1
  refine ⟨hb0, makeChain_st hf hP (by omega) h0 (by omega) (fun s1 c N a1 a2 a3 a4 a5 a6 a7 a8 a9 a10 => ?_)⟩
  have R80 : (R0 : Int) ≤ 80 := by omega
  have fr1 : fro (wgf s 24) (wgf s 28) R0 s s1 := pw_fro a1 (Int.le_refl _) (Int.le_refl _) R80 (fun f h => Or.inl (List.mem_singleton.1 h)) (fun c h => Or.inl (List.mem_singleton.1 h)) (fun c i hc _ _ => pw_r a1 (by omega) (by omega) (by omega) (fun z => by
    have := List.mem_singleton.1 z
    omega))
  have p1 : pol s1 (wga s 602 b) P := fro_pol fr1 a2 a4 (by omega) hf
  have lz := lim_zero
  refine whole_ok ⟨by decide, by decide⟩ (by omega) (by omega) (fun s2 b1 b2 b3 => ?_)
  have p2 := st_pol b1 p1
  have c2 := st_chn b1 a10
  have s28 := st_28 b1
  have fr2 : fro (wgf s 24) (wgf s 28) R0 s s2 := fro_tr fr1 (fwr_fro (st_fwr b1 (Int.le_refl _) R80) a2)
  have g41 : wgf s2 41 = R0 := by rw [ag_f b1.1 (by decide) (by decide), pw_f a1 (by decide)]; exact h41
  have g52 : wgf s2 52 = R0 := by rw [ag_f b1.1 (by decide) (by decide), pw_f a1 (by decide)]; exact h52
  refine findRoots_37 p2 hn hab b2 (fun x G d1 d2 d3 => ?_)
  refine findRoots_85 p2 hn hab hL d1 d2 R80 g41 (by omega) (by omega) (fun s3 m e1 e2 e3 e4 e5 e6 e7 e8 e9 e10 => ?_)
  have fr3 : fro (wgf s 24) (wgf s 28) R0 s s3 := fro_tr fr2 (fwr_fro e4 (by omega))
  have s328 : wgf s3 28 = wgf s2 28 := fwr_f e4 (by decide) (by decide) (by decide) (by decide)
  have p3 : pol s3 (wga s 602 b) P := fro_pol fr3 (by omega) (by omega) (by omega) hf
  have r6 : ∀ s' : im_S, fro (wgf s 24) (wgf s 28) R0 s s' → wga s' 602 b = wga s 602 b := fun s' h => h.2 602 b.toNat (by omega) (by omega) (by omega) (by decide) (by decide) (by omega) (by decide) (by decide)
  have c3 : chn s3 c N 56 := by
    refine ⟨by rw [fwr_f e4 (by decide) (by decide) (by decide) (by decide)]; exact c2.1, c2.2.1, fun j hj => ?_⟩
    rw [fwr_r e4 (by decide) (by decide) (by decide) (by decide)]
    have z := c2.2.2 j hj
    exact ⟨fwr_pol e4 (Int.le_refl _) e7 (by omega) z.1 (fun i hi => (z.1.2.2.2.2.2 i hi).2), z.2⟩
  have v0 := vf_nn a9 0 (-(m : Int))
  have v1 := vf_nn a9 (-1) (-(m : Int))
  have vs := two_v (c := c) (N := N) (by omega) (-(m : Int))
  have ms := two_m (e := -(m : Int)) (by omega) (by omega) v0 v1 (by omega)
  have out : ∀ x : Rat, wd (-(m : Int)) ≤ x ∨ x ≤ -wd (-(m : Int)) → pev P x ≠ 0 := fun x hx => no_out hn hL d3 e3 hx
  have eL : ((-1 : Int) : Rat) * wd (-(m : Int)) = -wd (-(m : Int)) := by
    have : ((-1 : Int) : Rat) = -1 := rfl
    rw [this]; grind
  have eR : (((0 : Int) : Rat) + 1) * wd (-(m : Int)) = wd (-(m : Int)) := by
    have : ((0 : Int) : Rat) = 0 := rfl
    rw [this]; grind
  refine findRoots_191c (D := n) (M := (m : Int)) (H0 := fun i => if i = 0 then 0 else -1) (E0 := fun _ => -(m : Int)) (B := 0 + mbu (-(m : Int)) (vfall c N 0 (-(m : Int))) + mbu (-(m : Int)) (vfall c N (-1) (-(m : Int)))) (Lmin := ((-1 : Int) : Rat) * wd (-(m : Int))) (Rend := (((0 : Int) : Rat) + 1) * wd (-(m : Int))) hb0 (by rw [r6 s3 fr3]; exact p3) hP a6 a9 (by omega) c3 (by omega) ⟨by omega, by omega⟩ (by rw [e5]; exact g41) (by rw [e6]; exact g52) (fun i hi => ?_) (two_c _) rfl rfl ?_ (by omega) rfl (by omega) (fun s4 k lf rf g1 g2 g3 g4 g5 g55 g6 g7 => ?_)
  · by_cases ei : i = 0
    · subst ei; exact e9
    · have e1 : i = 1 := by omega
      subst e1; exact e10
  · show 0 + vfall c N 0 (-(m : Int)) + vfall c N (-1) (-(m : Int)) ≤ (n : Int)
    omega
  have fr4 : fro (wgf s 24) (wgf s 28) R0 s s4 := fro_tr fr3 (fwr_fro g1 (by omega))
  have s428 : wgf s4 28 = wgf s3 28 := fwr_f g1 (by decide) (by decide) (by decide) (by decide)
  have hLm : pev P (((-1 : Int) : Rat) * wd (-(m : Int))) ≠ 0 := out _ (Or.inr (by rw [eL]; exact Rat.le_refl))
  refine restRoots_ok hb0 g7 hP a9 a6 hLm (by omega) (by omega) g5 (by omega) (by omega) (by omega) (fun s5 f F k1 k2 k3 k4 k5 k6 k7 k8 k9 k10 => ?_)
  have m4 : ∀ c : Nat, c ∈ pR4 → c = 600 ∨ c = 601 ∨ c = 610 ∨ c = 613 := fun c h => by
    rcases List.mem_cons.1 h with w | w
    · omega
    · have := List.mem_singleton.1 w
      omega
  have m4' : ∀ c : Nat, c ∈ pR4 → c = 601 ∨ c = 610 ∨ c = 613 := fun c h => by
    rcases List.mem_cons.1 h with w | w
    · omega
    · have := List.mem_singleton.1 w
      omega
  have fr5 : fro (wgf s 24) (wgf s 28) R0 s s5 := fro_tr fr4 (pw_fro k1 (by omega) (by omega) R80 (fun f h => nomatch h) m4 k10)
  have rt5 := pw_rtl k1 (by omega) (fun f h => nomatch h) m4' g5
  refine findRoots_358 (f := f) (F := F) (k := k) (lf := lf) (rf := rf) ⟨by omega, by omega⟩ (by omega) ⟨h0, by omega⟩ k6 k7.1 (fun q i hi => ?_) rt5.1 (by omega) k9 (fun s6 g u1 u2 u3 u4 u5 u6 => ?_)
  · rcases k8 with ⟨w1, w2⟩ | w
    · rw [r6 s4 fr4] at w1
      subst w2
      have z := hf.2.2.2.2.2 i hi
      have zz : wga s5 599 (9 * f + i) = wga s 599 (9 * wga s 602 b + i) := by
        rw [w1]
        exact fr5.2 599 (9 * wga s 602 b + (i : Int)).toNat (by omega) (by omega) (by omega) (by decide) (by decide) (by omega) (by decide) (by decide)
      rw [zz]
      exact z.2
    · omega
  · have m6 : ∀ c : Nat, c ∈ [601, 610] → c = 600 ∨ c = 601 ∨ c = 610 ∨ c = 613 := fun c h => by
      rcases List.mem_cons.1 h with w | w
      · omega
      · have := List.mem_singleton.1 w
        omega
    have m6' : ∀ c : Nat, c ∈ [601, 610] → c = 601 ∨ c = 610 ∨ c = 613 := fun c h => by
      rcases List.mem_cons.1 h with w | w
      · omega
      · have := List.mem_singleton.1 w
        omega
    have f6 : ∀ f : Nat, f ∈ [32, 33] → f = 32 ∨ f = 33 := fun c h => by
      rcases List.mem_cons.1 h with w | w
      · omega
      · have := List.mem_singleton.1 w
        omega
    have fr6 : fro (wgf s 24) (wgf s 28) R0 s s6 := fro_tr fr5 (pw_fro u1 (Int.le_refl _) (Int.le_refl _) R80 (fun f h => Or.inr (f6 f h)) m6 (fun c i hc i0 i1 => by
      rcases hc with w | w
      · subst w; exact u2 i i0 i1
      · subst w; exact pw_r u1 (by decide) (by decide) (by decide) (by decide)))
    have rt6 := pw_rtl u1 (by omega) f6 m6' rt5
    have r9 : ∀ i : Int, wga s6 609 i = wga s5 609 i := fun i => pw_r u1 (by decide) (by decide) (by decide) (by decide)
    have r9' : ∀ i : Int, wga s5 609 i = wga s4 609 i := fun i => pw_r k1 (by decide) (by decide) (by decide) (by decide)
    have r8 : ∀ i : Int, wga s6 608 i = wga s4 608 i := fun i => (pw_r u1 (by decide) (by decide) (by decide) (by decide)).trans (pw_r k1 (by decide) (by decide) (by decide) (by decide))
    refine hQ s6 c N k lf rf _ _ g F fr6 u3 u4 (by omega) a9 a6 rt6 (fun y hy => ?_) (rsp_mv k7 r8 (fun i => (r9 i).trans (r9' i))) ?_ (fun r hr hz => u6 r hr (by rw [← r9]; exact hz)) ?_ g55 (fun y cy ty => by rw [eL, eR]; exact turn_in (farc_c hn hL d3 e3) cy ty)
    · rw [eL, eR]
      refine ⟨?_, ?_⟩
      · exact Rat.not_le.1 (fun h => out y (Or.inr h) hy)
      · exact Rat.le_of_lt (Rat.not_le.1 (fun h => out y (Or.inl h) hy))
    · rcases u5 with w | w
      · exact Or.inl (fun r hr => by rw [r9]; exact w r hr)
      · exact Or.inr w
    · rw [r6 s6 fr6]
      exact fro_pol fr6 u4.1 u3.1 (by omega) hf
