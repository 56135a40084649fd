/-! part1: its loop -/
/-- as it begins: F = G W, G is F's common divisor with its derivative -/
def fst (F D : List Int) (ga : Int) (G W : List Int) : Prop := org F ∧ (∀ x : Rat, pev F x = pev G x * pev W x) ∧ W.length + G.length = F.length + 1 ∧ (∀ x : Rat, pev (pdl F) x = ga * pev D x) ∧ qd G D
theorem sqf_fct {P W Y : List Int} (hW : sqf W) (e : ∀ x : Rat, pev W x = pev Y x * pev P x) : sqf P := sqf_dv ⟨1, Y, by decide, fun x => by rw [rat_i1, e x]; grind⟩ hW
theorem part1_68 {s s1 : im_S} {i g0 w0 ga : Int} {F D G0 W0 : List Int} {n : Nat} {c : Nat → List Int} {Q : im_S → Prop} (hi : 0 ≤ i ∧ i < 10) (hfi : fi s n c) (hn : dsm c n ≤ 72) (hs : pw pF1 pR1 (wgf s 24) (wgf s 28) s s1) (h24 : wgf s 24 ≤ wgf s1 24) (h24' : wgf s1 24 ≤ wgf s 24 + 52000) (h28 : wgf s 28 ≤ wgf s1 28) (h28' : wgf s1 28 ≤ wgf s 28 + 14) (h36 : wgf s1 36 = n) (hr3 : ∀ k : Int, wga s1 603 k = wga s 603 k) (hr4 : ∀ k : Int, wga s1 604 k = wga s 604 k) (hr5 : ∀ k : Int, wga s1 605 k = wga s 605 k) (hg : pol s1 g0 G0) (hw : pol s1 w0 W0) (fG : fct G0) (fW : fct W0) (qW : sqf W0) (hf : fst F D ga G0 W0) (hQ : ∀ s' n' c', pw pF1 pR1 0 0 s s' → fi s' n' c' → n ≤ n' → dsm c' n' ≤ dsm c n + 8 → Q s') : wloop (fun (K : Int × Int × Int × im_S → Prop) (a : Int × Int × Int × im_S) => W_part1_68 K i (wgf s 28) (wgf s 24) (n : Int) a.1 a.2.1 a.2.2.1 a.2.2.2 Q) (g0, w0, 1, s1) := by
  obtain ⟨f1, f2, f3, f4, f5⟩ := hfi
  have how : ∀ k, k < n → ow (c k) := fun k hk => (f5 k hk).2.1
  have hnn : n ≤ dsm c n := dsm_n (fun k hk => (how k hk).2.2.1)
  have F9 := hf.1.1.2.1
  have lW0 := fW.1.1
  have lG0 := fG.1.1
  have lsum := hf.2.2.1
  refine ⟨fun a => ∃ (G W : List Int) (m : Nat) (c' : Nat → List Int) (j : Nat), a.2.2.1 = j ∧ pw pF1 pR1 (wgf s 24) (wgf s 28) s a.2.2.2 ∧ wgf s 24 ≤ wgf a.2.2.2 24 ∧ wgf s 28 ≤ wgf a.2.2.2 28 ∧ pol a.2.2.2 a.1 G ∧ pol a.2.2.2 a.2.1 W ∧ fct G ∧ fct W ∧ sqf W ∧ 1 ≤ j ∧ j + W.length + G.length ≤ 11 ∧ ((j = 1 ∧ fst F D ga G W) ∨ W.length ≤ 5) ∧ wgf a.2.2.2 36 = ((n + m : Nat) : Int) ∧ (∀ k : Int, 0 ≤ k → k < n → wga a.2.2.2 603 k = wga s 603 k) ∧ (∀ k : Int, 0 ≤ k → k < n → wga a.2.2.2 604 k = wga s 604 k) ∧ (∀ k : Int, 0 ≤ k → k < n → wga a.2.2.2 605 k = wga s 605 k) ∧ (∀ k, k < n → c' k = c k) ∧ (∀ q : Nat, q < m → fie a.2.2.2 (n + q) (c' (n + q))) ∧ dsm c' (n + m) + (W.length - 1) ≤ dsm c n + 8 ∧ wgf a.2.2.2 28 ≤ wgf s 28 + 14 * j ∧ wgf a.2.2.2 24 ≤ wgf s 24 + 55000 * j, fun a => (wga a.2.2.2 598 a.1 + wga a.2.2.2 598 a.2.1 + 2).toNat, ⟨G0, W0, 0, c, 1, rfl, hs, h24, h28, hg, hw, fG, fW, qW, by omega, by omega, Or.inl ⟨rfl, hf⟩, h36, fun k _ _ => hr3 k, fun k _ _ => hr4 k, fun k _ _ => hr5 k, fun _ _ => rfl, fun q hq => by omega, ?_, by dsimp only; omega, by dsimp only; omega⟩, ?_⟩
  · rw [Nat.add_zero]; omega
  rintro ⟨g, w, jj, s2⟩ ⟨G, W, m, c', j, i1, i2, i3, i4, i5, i6, i7, i8, i9, i10, i11, i12, i13, i14, i15, i16, i17, i18, i19, i20, i21⟩
  dsimp only at i1 i2 i3 i4 i5 i6 i7 i8 i9 i10 i11 i12 i13 i14 i15 i16 i17 i18 i19 i20 i21 ⊢
  subst i1
  have W1 := i8.1.1
  have G1 := i7.1.1
  have w1 := i6.1
  have w2 := i6.2.1
  have w3 := i6.2.2.1
  have w5 := i6.2.2.2.2.1
  have g5 := i5.2.2.2.2.1
  have da := dsm_a (c := c') (n := n) (m := m) (fun k h1 h2 => by
    have := (i18 (k - n) (by omega)).2.1.2.2.1
    rw [show n + (k - n) = k by omega] at this
    exact this)
  have dc : dsm c' n = dsm c n := dsm_co i17
  unfold W_part1_68
  refine ⟨⟨w1, by omega⟩, fun e => ?_, fun e => ?_⟩
  · intro s3 e3
    have l1 : W.length = 1 := by omega
    have w3 : pw pF1 pR1 (wgf s 24) (wgf s 28) s s3 := by rw [e3]; exact pw_pf i2 (Or.inr (Or.inr (Or.inr (by decide))))
    refine part1_179 (s := s) (s1 := s3) (n := n) (m := m) (c' := c') w3 ?_ (by omega) (by omega) f2 f3 f4 (fun q hq => ?_) (fun q hq => (i18 q hq).2.1) (by rw [e3]; exact wf_same) (fun s' d1 d2 d3 d4 d5 d6 d7 d8 d9 => ?_)
    · rw [e3, wf_ne (by decide)]; exact i13
    · rw [e3, wg_pf]
      exact pol_pf (by decide) (by decide) (i18 q hq).1
    · have d6' : ∀ k : Int, 0 ≤ k → k < n → wga s' 603 k = wga s 603 k := fun k k0 k1 => by
        rw [d6 k k0 k1, e3, wg_pf]; exact i14 k k0 k1
      have d7' : ∀ k : Int, wga s' 604 k = wga s2 604 k := fun k => by rw [d7, e3, wg_pf]
      have d8' : ∀ k : Int, wga s' 605 k = wga s2 605 k := fun k => by rw [d8, e3, wg_pf]
      refine hQ s' (n + m) c' (pw_mono d1 (fun _ h => h) (fun _ h => h) f3 (by omega)) ⟨d2, d3, by omega, d5, fun k hk => ?_⟩ (by omega) (by omega)
      by_cases ck : k < n
      · have z := f5 k ck
        rw [i17 k ck]
        refine ⟨?_, z.2.1, ?_, ?_⟩
        · rw [d6' k (by omega) (by omega)]
          exact pw_pol d1 ⟨by decide, by decide, by decide⟩ (Int.le_refl _) d4 (Int.le_refl _) (by omega) (by omega) z.1
        · rw [d7', i15 k (by omega) (by omega)]; exact z.2.2.1
        · rw [d8', i16 k (by omega) (by omega)]; exact z.2.2.2
      · have z := i18 (k - n) (by omega)
        have y := d9 (k - n) (by omega)
        rw [show n + (k - n) = k by omega] at z y
        exact ⟨y, z.2.1, by rw [d7']; exact z.2.2.1, by rw [d8']; exact z.2.2.2⟩
  · have W2 : 2 ≤ W.length := by omega
    have gW := i8.1
    have gG := i7.1
    have ctd := ct_d W.length (by have := gW.2.1; omega) G.length (by have := gG.2.1; omega)
    have G9 := gG.2.1
    refine common2_gcd i6 i5 gW.1 gG.1 gW.2.2.1 gG.2.2.1 gW.2.2.2.2 gG.2.2.2.2 (fct_pab i8) (fct_pab i7) (by omega) (by omega) (by omega) (fun y s3 Y a1 a2 a3 a4 a5 a6 => ?_)
    have a13 := a1.2.2.1
    have a14 := a1.2.2.2
    have p28 : wgf s3 28 ≤ 1200 := by omega
    have gY : gd Y := gcdof_gd a5 gW
    have Y1 := gY.1
    have qYW : qd Y W := a5.2.2.2.2.1
    have qYG : qd Y G := a5.2.2.2.2.2.1
    have lYW := qd_len qYW gY.2.2.1 gY.1 gW.2.2.1 gW.1
    have lYG := qd_len qYG gY.2.2.1 gY.1 gG.2.2.1 gG.1
    refine share_fc (ps_pol a1 p28 i6) a4 i8 gY qYW (by omega) (by omega) (by omega) (fun s4 O b1 b2 b3 b4 b5 b6 b7 => ?_)
    have b13 := b1.2.2.1
    have O1 := b4.1.1
    have b35 := b3.2.2.2.2.1
    refine ⟨⟨b3.1, by omega⟩, ?_⟩
    have ps24 := ps_tr a1 b1
    have pw24 : pw pF1 pR1 (wgf s 24) (wgf s 28) s s4 := pw_tr i2 (ps_pw ps24 i3 i4)
    -- behind the second share
    have fin : ∀ (s5 : im_S) (m' : Nat) (c'' : Nat → List Int), pw pF1 pR1 (wgf s 24) (wgf s 28) s s5 → wgf s5 24 = wgf s4 24 → wgf s5 28 = wgf s4 28 → pol s5 g G → pol s5 y Y → wgf s5 36 = ((n + m' : Nat) : Int) → (∀ k : Int, 0 ≤ k → k < n → wga s5 603 k = wga s 603 k) → (∀ k : Int, 0 ≤ k → k < n → wga s5 604 k = wga s 604 k) → (∀ k : Int, 0 ≤ k → k < n → wga s5 605 k = wga s 605 k) → (∀ k, k < n → c'' k = c k) → (ow O ∨ O.length ≤ 1 → ∀ q : Nat, q < m' → fie s5 (n + q) (c'' (n + q))) → dsm c'' (n + m') + (Y.length - 1) ≤ dsm c n + 8 → W_part1_150 (fun b => (∃ (G W : List Int) (m : Nat) (c' : Nat → List Int) (j : Nat), b.2.2.1 = j ∧ pw pF1 pR1 (wgf s 24) (wgf s 28) s b.2.2.2 ∧ wgf s 24 ≤ wgf b.2.2.2 24 ∧ wgf s 28 ≤ wgf b.2.2.2 28 ∧ pol b.2.2.2 b.1 G ∧ pol b.2.2.2 b.2.1 W ∧ fct G ∧ fct W ∧ sqf W ∧ 1 ≤ j ∧ j + W.length + G.length ≤ 11 ∧ ((j = 1 ∧ fst F D ga G W) ∨ W.length ≤ 5) ∧ wgf b.2.2.2 36 = ((n + m : Nat) : Int) ∧ (∀ k : Int, 0 ≤ k → k < n → wga b.2.2.2 603 k = wga s 603 k) ∧ (∀ k : Int, 0 ≤ k → k < n → wga b.2.2.2 604 k = wga s 604 k) ∧ (∀ k : Int, 0 ≤ k → k < n → wga b.2.2.2 605 k = wga s 605 k) ∧ (∀ k, k < n → c' k = c k) ∧ (∀ q : Nat, q < m → fie b.2.2.2 (n + q) (c' (n + q))) ∧ dsm c' (n + m) + (W.length - 1) ≤ dsm c n + 8 ∧ wgf b.2.2.2 28 ≤ wgf s 28 + 14 * j ∧ wgf b.2.2.2 24 ≤ wgf s 24 + 55000 * j) ∧ (wga b.2.2.2 598 b.1 + wga b.2.2.2 598 b.2.1 + 2).toNat < (wga s2 598 g + wga s2 598 w + 2).toNat) i (wgf s 28) (wgf s 24) (n : Int) g (j : Int) y s5 Q := by
      intro s5 m' c'' v1 v2 v3 v4 v5 v6 v7 v8 v9 v10 v11 v12
      unfold W_part1_150
      refine share_fc v4 v5 i7 gY qYG (by omega) (by omega) (by omega) (fun s6 Gn d1 d2 d3 d4 d5 d6 d7 => ⟨⟨by omega, by omega⟩, ?_⟩)
      have d13 := d1.2.2.1
      have ho : ow O ∨ O.length ≤ 1 := by
        by_cases lo : O.length ≤ 1
        · exact Or.inr lo
        · refine Or.inl ⟨b4, sqf_fct i9 b6, by omega, fun h6 => ?_⟩
          rcases i12 with ⟨_, x⟩ | x
          · exact own_small x.1 gG gW b4.1 d4.1 x.2.1 x.2.2.1 x.2.2.2.1 x.2.2.2.2 a5 b6 b5 d6 d5 h6
          · omega
      have Y5 : Y.length ≤ 5 := by
        rcases i12 with ⟨_, x⟩ | x
        · have := x.2.2.1
          have := x.1.1.2.1
          omega
        · omega
      have y6 := ps_pol d1 (by omega) v5
      have y65 := y6.2.2.2.2.1
      have d35 := d3.2.2.2.2.1
      refine ⟨⟨Gn, Y, m', c'', j + 1, by dsimp only; omega, pw_tr v1 (ps_pw d1 (by omega) (by omega)), by dsimp only; omega, by dsimp only; omega, d3, y6, d4, fct_dv i8 gY (qd_dvz gY.2.2.2.2 qYW), sqf_dv qYW i9, by omega, by omega, Or.inr Y5, ?_, fun k k0 k1 => ?_, fun k k0 k1 => ?_, fun k k0 k1 => ?_, v10, fun q hq => ?_, v12, by dsimp only; omega, by dsimp only; omega⟩, by dsimp only; omega⟩
      · dsimp only; rw [ps_f d1 (by decide) (by decide) (by decide)]; exact v6
      · dsimp only; rw [ps_r d1 (by decide) (by decide) (by decide)]; exact v7 k k0 k1
      · dsimp only; rw [ps_r d1 (by decide) (by decide) (by decide)]; exact v8 k k0 k1
      · dsimp only; rw [ps_r d1 (by decide) (by decide) (by decide)]; exact v9 k k0 k1
      · have z := v11 ho q hq
        unfold fie
        dsimp only
        rw [ps_r d1 (by decide) (by decide) (by decide), ps_r d1 (by decide) (by decide) (by decide), ps_r d1 (by decide) (by decide) (by decide)]
        exact ⟨ps_pol d1 (by omega) z.1, z.2⟩
    have e36 : wgf s4 36 = ((n + m : Nat) : Int) := by rw [ps_f ps24 (by decide) (by decide) (by decide)]; exact i13
    have g4 : pol s4 g G := ps_pol ps24 (by omega) i5
    have y4 : pol s4 y Y := ps_pol b1 (by omega) a4
    have old : ∀ q : Nat, q < m → fie s4 (n + q) (c' (n + q)) := fun q hq => by
      have z := i18 q hq
      unfold fie
      rw [ps_r ps24 (by decide) (by decide) (by decide), ps_r ps24 (by decide) (by decide) (by decide), ps_r ps24 (by decide) (by decide) (by decide)]
      exact ⟨ps_pol ps24 (by omega) z.1, z.2⟩
    refine ⟨fun e2 => ?_, fun e2 => ?_⟩
    · refine fin s4 m c' pw24 rfl rfl g4 y4 e36 (fun k k0 k1 => ?_) (fun k k0 k1 => ?_) (fun k k0 k1 => ?_) i17 (fun _ => old) (by omega)
      · rw [ps_r ps24 (by decide) (by decide) (by decide)]; exact i14 k k0 k1
      · rw [ps_r ps24 (by decide) (by decide) (by decide)]; exact i15 k k0 k1
      · rw [ps_r ps24 (by decide) (by decide) (by decide)]; exact i16 k k0 k1
    · have lo : 2 ≤ O.length := by omega
      rw [e36]
      refine ⟨⟨by omega, by omega⟩, fun s5 e5 => ?_⟩
      have e365 : wgf s5 36 = ((n + m : Nat) : Int) := by rw [e5, wf_pa]; exact e36
      rw [e365]
      refine ⟨⟨by omega, by omega⟩, fun s6 e6 => ?_⟩
      have e366 : wgf s6 36 = ((n + m : Nat) : Int) := by rw [e6, wf_pa]; exact e365
      rw [e366]
      refine ⟨⟨by omega, by omega⟩, fun s7 e7 => ?_⟩
      have e367 : wgf s7 36 = ((n + m : Nat) : Int) := by rw [e7, wf_pa]; exact e366
      rw [e367]
      refine ⟨⟨by omega, by omega⟩, fun s8 e8 => ?_⟩
      have pl : ∀ (f : Int) (P : List Int), pol s4 f P → pol s8 f P := fun f P h => by
        rw [e8, e7, e6, e5]
        exact pol_pf (by decide) (by decide) (pol_pa (by decide) (by decide) (by decide) (pol_pa (by decide) (by decide) (by decide) (pol_pa (by decide) (by decide) (by decide) h)))
      have r3 : ∀ k : Int, wga s8 603 k = wga (wpa s4 603 ((n + m : Nat) : Int) (wgf s3 28 + 1)) 603 k := fun k => by
        rw [e8, wg_pf, e7, wg_row (by decide), e6, wg_row (by decide), e5]
      have r4 : ∀ k : Int, wga s8 604 k = wga (wpa s5 604 ((n + m : Nat) : Int) i) 604 k := fun k => by
        rw [e8, wg_pf, e7, wg_row (by decide), e6]
      have r5 : ∀ k : Int, wga s8 605 k = wga (wpa s6 605 ((n + m : Nat) : Int) (j : Int)) 605 k := fun k => by
        rw [e8, wg_pf, e7]
      have o3 : ∀ k : Int, 0 ≤ k → k < ((n + m : Nat) : Int) → wga s8 603 k = wga s4 603 k := fun k k0 k1 => by
        rw [r3, wg_ne (by omega) k0 (by omega)]
      have o4 : ∀ k : Int, 0 ≤ k → k < ((n + m : Nat) : Int) → wga s8 604 k = wga s4 604 k := fun k k0 k1 => by
        rw [r4, wg_ne (by omega) k0 (by omega), e5, wg_row (by decide)]
      have o5 : ∀ k : Int, 0 ≤ k → k < ((n + m : Nat) : Int) → wga s8 605 k = wga s4 605 k := fun k k0 k1 => by
        rw [r5, wg_ne (by omega) k0 (by omega), e6, wg_row (by decide), e5, wg_row (by decide)]
      obtain ⟨c'', hn'', ho''⟩ : ∃ c'' : Nat → List Int, c'' (n + m) = O ∧ ∀ k, k ≠ n + m → c'' k = c' k := ⟨fun k => if k = n + m then O else c' k, if_pos rfl, fun k hk => if_neg hk⟩
      refine fin s8 (m + 1) c'' ?_ ?_ ?_ (pl _ _ g4) (pl _ _ y4) ?_ (fun k k0 k1 => ?_) (fun k k0 k1 => ?_) (fun k k0 k1 => ?_) (fun k hk => ?_) (fun ho q hq => ?_) ?_
      · rw [e8, e7, e6, e5]
        exact pw_pf (pw_pa (pw_pa (pw_pa pw24 (by decide)) (by decide)) (by decide)) (Or.inr (Or.inr (Or.inr (by decide))))
      · rw [e8, wf_ne (by decide), e7, wf_pa, e6, wf_pa, e5, wf_pa]
      · rw [e8, wf_ne (by decide), e7, wf_pa, e6, wf_pa, e5, wf_pa]
      · rw [e8, wf_same]; omega
      · rw [o3 k k0 (by omega), ps_r ps24 (by decide) (by decide) (by decide)]; exact i14 k k0 k1
      · rw [o4 k k0 (by omega), ps_r ps24 (by decide) (by decide) (by decide)]; exact i15 k k0 k1
      · rw [o5 k k0 (by omega), ps_r ps24 (by decide) (by decide) (by decide)]; exact i16 k k0 k1
      · rw [ho'' k (by omega)]; exact i17 k hk
      · by_cases eq : q = m
        · subst eq
          rw [hn'']
          refine ⟨?_, ?_, ?_, ?_⟩
          · rw [r3, wg_same]
            exact pl _ _ b3
          · rcases ho with x | x
            · exact x
            · omega
          · rw [r4, wg_same]; exact hi
          · rw [r5, wg_same]; exact ⟨by omega, by omega⟩
        · have z := old q (by omega)
          rw [ho'' (n + q) (by omega)]
          refine ⟨?_, z.2.1, ?_, ?_⟩
          · rw [o3 _ (by omega) (by omega)]; exact pl _ _ z.1
          · rw [o4 _ (by omega) (by omega)]; exact z.2.2.1
          · rw [o5 _ (by omega) (by omega)]; exact z.2.2.2
      · have d1 : dsm c'' (n + (m + 1)) = dsm c' (n + m) + (O.length - 1) := by
          show dsm c'' (n + m) + ((c'' (n + m)).length - 1) = _
          rw [hn'', dsm_co (c := c') (d := c'') (fun k hk => ho'' k (by omega))]
        rw [d1]
        omega
