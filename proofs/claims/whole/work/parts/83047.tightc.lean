/-! tighten reaches its goal whatever the leap was (part 790, with the clause for every leap) -/
theorem tighten_c {s : im_S} {j p d lo hi mi ot : Nat} {P : List Int} {c b wt : Int} {Q : im_S → Prop} (hj : j < 80) (hP : ply s p P) (p1 : 86 ≤ p) (p2 : p < 246) (hd : s.1 p 0 = (d : Int)) (bP : pab P 15482880000000000) (hr : rst s j c b) (hcb : cbd c b) (fr0 : s.1 (311 + 3 * j) 1 = 0) (lp1 : 1 ≤ s.1 (311 + 3 * j) 8) (lp2 : s.1 (311 + 3 * j) 8 ≤ 2000) (hf : fq s lo hi mi ot) (ho : big s 553 1) (sg : pev P (xv c b) * pev P (xv (c + 1) b) < 0) (hQ : ∀ s' c' b' lo' hi' mi' ot', rst s' j c' b' → (c'.natAbs : Int) ≤ 2 ^ (b' + 33).toNat → b ≤ b' → (b' ≤ b ∨ b' ≤ wt) → b' ≤ 640 → 1 ≤ s'.1 (311 + 3 * j) 8 → s'.1 (311 + 3 * j) 8 ≤ 2000 → fq s' lo' hi' mi' ot' → tgf j s s' → tgo P s' j c b c' b' → (s'.1 (311 + 3 * j) 1 = 0 → min wt 640 ≤ b') → Q s') : C_tighten3 (311 + 3 * j) p wt s Q := by
  have gv := gln_v
  have b1 := hcb.1
  have b2 := hcb.2.1
  refine min_J ⟨fun h => absurd fr0 h, fun _ => ⟨fun bl => ?_, fun bg => ?_⟩⟩
  · rw [show cgf s (311 + 3 * j) 7 = b from hr.1] at bl
    obtain ⟨g, hg⟩ : ∃ g, g = min wt 640 := ⟨_, rfl⟩
    rw [← hg] at bl ⊢
    have cw := cbd_W hcb
    have gd557 : gln 558 = 24 := gv.2.2.2.2.2.2.2.2.1
    have gd555 : gln 556 = 24 := gv.2.2.2.2.2.2.2.1
    refine copy_b hr.2 (by omega) (by rw [rm557]; omega) (by rw [gd557]; decide) (fun s1 h1 f1 => ?_)
    have o1 : big s1 553 1 := big_fr ho f1 (by decide)
    refine add_b h1 o1 (by decide) (by rw [gd557]; decide) (Or.inl rfl) (by rw [rm557]; show (c.natAbs : Int) + 1 < W24; omega) (fun s2 h2 f2 => ?_)
    have g2 : tgf j s s2 := tgf_b (tgf_b (gfr_refl _ _ _) f1 (by decide) (by decide)) f2 (by decide) (by decide)
    have e1 : c + 1 * 1 = c + 1 := by omega
    rw [e1] at h2
    have hf2 : fq s2 lo hi mi ot := fq_b (fq_b hf f1 (by decide)) f2 (by decide)
    obtain ⟨r1, r2, r3, r4⟩ := fq_r hf2
    have k1 := v4_r hf.2.1.1
    have k2 := v4_r hf.2.1.2.1
    have hP2 : ply s2 p P := tgf_ply g2 hj p1 p2 hP
    have hd2 : s2.1 p 0 = (d : Int) := tgf_deg g2 hj p1 p2 hd
    have c2 : big s2 (311 + 3 * j + 1) c := lft_b (lft_b hr.2 f1 hj (by decide)) f2 hj (by decide)
    have bb2 : cgf s2 (311 + 3 * j) 7 = b := by show s2.1 _ _ = _; rw [f2.1 _ _ (by omega), f1.1 _ _ (by omega)]; exact hr.1
    have p36 : (2 : Int) ^ (b + 33).toNat ≤ 2 ^ (b + 36).toNat := p2mono (by omega)
    rw [r1, bb2]
    refine setValue_b hf.2.1.1 hP2 p1 p2 hd2 bP c2 (by omega) b1 b2 (by omega) (fun s3 wl hwl vl f3 => ?_)
    have g3 : tgf j s s3 := gfr_trans g2 (svf_tgf hf.2.1.1 f3)
    have hf3 : fq s3 lo hi mi ot := fq_co hf2 f3 (fun k => by omega)
    obtain ⟨r1', r2', _, _⟩ := fq_r hf3
    have bb3 : cgf s3 (311 + 3 * j) 7 = b := by show s3.1 _ _ = _; rw [f3.1 _ _ (by omega)]; exact bb2
    have hP3 : ply s3 p P := tgf_ply g3 hj p1 p2 hP
    have hd3 : s3.1 p 0 = (d : Int) := tgf_deg g3 hj p1 p2 hd
    have e3 : big s3 557 (c + 1) := big_g h2 f3 (by omega) (by omega) (by omega)
    rw [r2', bb3]
    have c1b : ((c + 1).natAbs : Int) ≤ 2 ^ (b + 36).toNat := by
      have := hcb.2.2.1
      have := hcb.2.2.2
      omega
    refine setValue_b hf.2.1.2.1 hP3 p1 p2 hd3 bP e3 (by omega) b1 b2 c1b (fun s4 wh hwh vh f4 => ?_)
    have g4 : tgf j s s4 := gfr_trans g3 (svf_tgf hf.2.1.2.1 f4)
    have hf4 : fq s4 lo hi mi ot := fq_co hf3 f4 (fun k => by omega)
    have n12 := hf.2.2.1
    have hwl4 : big s4 lo wl := big_g hwl f4 (by omega) (by omega) (by omega)
    have c4 : big s4 (311 + 3 * j + 1) c := lft_v (lft_v c2 f3 hf.2.1.1 hj) f4 hf.2.1.2.1 hj
    have fld4 : ∀ f, s4.1 (311 + 3 * j) f = s.1 (311 + 3 * j) f := fun f => by rw [f4.1 _ _ (by omega), f3.1 _ _ (by omega), f2.1 _ _ (by omega), f1.1 _ _ (by omega)]
    clear hf2 hf3 r1 r2 r3 r4 r1' r2' hP2 hP3 hd2 hd3 e3 c2 bb2 bb3 h1 h2 o1 hwl k1 k2 n12
    refine ⟨fun q => ∃ (n : Nat) (c' b' : Int) (lo hi mi ot : Nat), q.1 = (n : Int) ∧ n ≤ 10000 ∧ rst q.2 j c' b' ∧ (c'.natAbs : Int) ≤ 2 ^ (b' + 33).toNat ∧ b ≤ b' ∧ b' ≤ g ∧ 1 ≤ q.2.1 (311 + 3 * j) 8 ∧ q.2.1 (311 + 3 * j) 8 ≤ 2000 ∧ fq q.2 lo hi mi ot ∧ tgf j s q.2 ∧ tgo P q.2 j c b c' b' ∧ (q.2.1 (311 + 3 * j) 1 = 0 → ∃ wl wh, big q.2 lo wl ∧ big q.2 hi wh ∧ vs wl (pev P (xv c' b')) ∧ vs wh (pev P (xv (c' + 1) b'))) ∧ pot9 1 (q.2.1 (311 + 3 * j) 8) n g b', ⟨0, c, b, lo, hi, mi, ot, rfl, by omega, ⟨(fld4 7).trans hr.1, c4⟩, cw.1, Int.le_refl _, by omega, by dsimp only; rw [fld4]; exact lp1, by dsimp only; rw [fld4]; exact lp2, hf4, g4, Or.inr ⟨(fld4 1).trans fr0, hcb, sg, Rat.le_refl, Rat.le_refl⟩, fun _ => ⟨wl, wh, hwl4, hwh, vl, vh⟩, fun _ => ⟨11, by omega, by dsimp only; rw [fld4]; exact Int.lt_of_le_of_lt lp2 (by decide), by omega⟩⟩, ?_⟩
    clear hf4 hwl4 c4 fld4 g4 g3 g2 hwh vl vh f1 f2 f3 f4 hf
    rintro ⟨x, s5⟩ ⟨n, c5, b5, lo, hi, mi, ot, ex, nn, rs5, cb5, bb5, bg5, lp51, lp52, hf5, g5, to5, wl5, pot5⟩
    dsimp only at ex rs5 lp51 lp52 hf5 g5 to5 wl5 pot5 ⊢
    subst ex
    have cb5n : nabd c5 (2 ^ (b5 + 33).toNat) := cb5
    clear cb5 cw c1b
    have done : (s5.1 (311 + 3 * j) 1 = 0 → min wt 640 ≤ b5) → Q s5 := fun h => hQ s5 c5 b5 lo hi mi ot rs5 cb5n bb5 (Or.inr (by omega)) (by omega) lp51 lp52 hf5 g5 to5 h
    refine ⟨fun h => done (fun _ => ?_), fun hn => ⟨fun h => done (fun _ => ?_), fun hlt => ⟨fun h => done (fun h1 => absurd h1 h), fun f0 => ?_⟩⟩⟩
    · obtain ⟨k, _, _, q⟩ := pot5 rfl
      omega
    · rw [show cgf s5 (311 + 3 * j) 7 = b5 from rs5.1] at h
      omega
    · rw [show cgf s5 (311 + 3 * j) 7 = b5 from rs5.1] at hlt
      have f0' : s5.1 (311 + 3 * j) 1 = 0 := f0
      obtain ⟨wl, wh, hwl, hwh, vl, vh⟩ := wl5 f0'
      obtain ⟨_, cb, sg5, lo5, hi5⟩ : s5.1 (311 + 3 * j) 1 = 0 ∧ cbd c5 b5 ∧ pev P (xv c5 b5) * pev P (xv (c5 + 1) b5) < 0 ∧ xv c b ≤ xv c5 b5 ∧ xv (c5 + 1) b5 ≤ xv (c + 1) b := by
        rcases to5 with q | q
        · rw [f0'] at q; exact absurd q.1 (by decide)
        · exact q
      clear wl5 to5 done
      rw [show cgf s5 (311 + 3 * j) 7 = b5 from rs5.1, w32_id (x := g - b5) (by omega) (by omega)]
      refine min_J (max_J ?_)
      obtain ⟨lp, hlp⟩ : ∃ lp, lp = max 1 (min (cgf s5 (311 + 3 * j) 8) (g - b5)) := ⟨_, rfl⟩
      rw [← hlp]
      have lpe : cgf s5 (311 + 3 * j) 8 = s5.1 (311 + 3 * j) 8 := rfl
      have l1 : 1 ≤ lp := by omega
      have l2 : lp ≤ g - b5 := by omega
      have l3 : lp ≤ s5.1 (311 + 3 * j) 8 := by omega
      have lb := cb.1
      have o5 : big s5 553 1 := tgf_553 g5 hj ho
      refine guessJump_b hf5 o5 l1 (by omega) (fun s6 ju hju j1 j2 f6 => ?_)
      have g6 : tgf j s s6 := gfr_trans g5 (gjf_tgf f6)
      have c6 : big s6 (311 + 3 * j + 1) c5 := lft_g rs5.2 f6 hj
      have cw5 := cbd_W cb
      refine copy_b c6 (rne hj (by decide)) (by rw [rm555]; omega) (by rw [gd555]; decide) (fun s7 h7 f7 => ?_)
      -- sizes
      have P33 : (2 : Int) ^ (b5 + 33).toNat * 2 ^ lp.toNat = 2 ^ (b5 + lp + 33).toNat := by rw [← Int.pow_add]; congr 1; omega
      have plp := p2p lp.toNat
      have pW := p2W (n := (b5 + lp + 33).toNat) (by omega)
      have cA : (c5.natAbs : Int) * 2 ^ lp.toNat ≤ 2 ^ (b5 + lp + 33).toNat := by
        rw [← P33]; exact Int.mul_le_mul_of_nonneg_right cw5.1 (by omega)
      refine shiftUp_b h7 (by omega) (by rw [gd555]; decide) (by rw [gd555]; decide) (by rw [rm555]; omega) (fun s8 h8 f8 => ?_)
      clear cA cw5
      have ju8 : big s8 559 ju := big_fr (big_fr hju f7 (by decide)) f8 (by decide)
      obtain ⟨C, hC⟩ : ∃ C, C = c5 * 2 ^ lp.toNat := ⟨_, rfl⟩
      rw [← hC] at h8
      have C1 : -(2 ^ (b5 + lp + 33).toNat) ≤ C := by
        rw [hC, ← P33]
        have := Int.mul_le_mul_of_nonneg_right cb.2.2.1 (show (0 : Int) ≤ 2 ^ lp.toNat by omega)
        rw [Int.neg_mul] at this; exact this
      have C2 : C + 2 ^ lp.toNat ≤ 2 ^ (b5 + lp + 33).toNat := by
        rw [hC, ← P33]
        have := Int.mul_le_mul_of_nonneg_right cb.2.2.2 (show (0 : Int) ≤ 2 ^ lp.toNat by omega)
        rw [Int.add_mul, Int.one_mul] at this; exact this
      obtain ⟨L, hL⟩ : ∃ L, L = (2 : Int) ^ lp.toNat := ⟨_, rfl⟩
      obtain ⟨Z, hZ⟩ : ∃ Z, Z = (2 : Int) ^ (b5 + lp + 33).toNat := ⟨_, rfl⟩
      rw [← hL] at j2 C2 plp
      rw [← hZ] at C1 C2 pW
      refine add_b h8 ju8 (by decide) (by rw [gd555]; decide) (Or.inl rfl) (by rw [rm555]; omega) (fun s9 h9 f9 => ?_)
      obtain ⟨pr, hpr⟩ : ∃ pr, pr = C + 1 * ju := ⟨_, rfl⟩
      rw [← hpr] at h9
      have g9 : tgf j s s9 := tgf_b (tgf_b (tgf_b g6 f7 (by decide) (by decide)) f8 (by decide) (by decide)) f9 (by decide) (by decide)
      have hf9 : fq s9 lo hi mi ot := fq_b (fq_b (fq_b (fq_g hf5 f6) f7 (by decide)) f8 (by decide)) f9 (by decide)
      have w1 := hf5.2.1.1
      have w2 := hf5.2.1.2.1
      have w3 := hf5.2.1.2.2.1
      have w4 := hf5.2.1.2.2.2
      have hne : nev lo hi mi ot := hf5.2.2
      have u1 := v4_r w1
      have u2 := v4_r w2
      have u3 := v4_r w3
      have u4 := v4_r w4
      have keep : ∀ (v : Nat) (w : Int), v4 v → big s5 v w → big s9 v w := fun v w hv hb => big_4b (big_4b (big_4b (big_4g hb f6 hv) f7 hv (by decide)) f8 hv (by decide)) f9 hv (by decide)
      have hwl9 := keep lo wl w1 hwl
      have hwh9 := keep hi wh w2 hwh
      have fld9 : ∀ f, s9.1 (311 + 3 * j) f = s5.1 (311 + 3 * j) f := fun f => ((fld_b f9 hj (by decide) f).trans (fld_b f8 hj (by decide) f)).trans ((fld_b f7 hj (by decide) f).trans (fld_g f6 hj f))
      have left9 : big s9 (311 + 3 * j + 1) c5 := lft_b (lft_b (lft_b c6 f7 hj (by decide)) f8 hj (by decide)) f9 hj (by decide)
      have r39 : crf s9 83 15 = mi := (fq_r hf9).2.2.1
      have b79 : cgf s9 (311 + 3 * j) 7 = b5 := (fld9 7).trans rs5.1
      have hP9 : ply s9 p P := tgf_ply g9 hj p1 p2 hP
      have hd9 : s9.1 p 0 = (d : Int) := tgf_deg g9 hj p1 p2 hd
      rw [r39, b79, w32_id (x := b5 + lp) (by omega) (by omega)]
      have Z36 : Z * 8 = 2 ^ (b5 + lp + 36).toNat := by
        rw [hZ, show (8 : Int) = 2 ^ 3 from rfl, ← Int.pow_add]; congr 1; omega
      refine setValue_b w3 hP9 p1 p2 hd9 bP h9 (Or.inl rfl) (by omega) (by omega) (by rw [← Z36]; omega) (fun s10 wm hwm vm f10 => ?_)
      have g10 : tgf j s s10 := gfr_trans g9 (svf_tgf w3 f10)
      have hf10 : fq s10 lo hi mi ot := fq_v hf9 f10 w3
      intro fu efu
      have hwl10 : big s10 lo wl := big_v hwl9 f10 w3 w1 hne.2.1
      have hwh10 : big s10 hi wh := big_v hwh9 f10 w3 w2 hne.2.2.2.1
      rw [(fq_r hf10).2.2.1, (fq_r hf10).1, show cgf s10 mi 2 = wm.sign from big_mk hwm, show cgf s10 lo 2 = wl.sign from big_mk hwl10] at efu
      have fu01 : z01 fu := by unfold z01; rw [efu]; split <;> simp
      have fuI : fu = 1 ↔ wm.sign = wl.sign := by
        rw [efu]
        by_cases q : wm.sign = wl.sign
        · rw [if_neg (fun h => h q)]; exact ⟨fun _ => q, fun _ => rfl⟩
        · rw [if_pos q]; exact ⟨fun h => by omega, fun h => absurd h q⟩
      clear efu
      have pr10 : big s10 555 pr := big_pv h9 f10 w3
      refine copy_b pr10 (by decide) (by rw [rm557]; omega) (by rw [gd557]; decide) (fun s11 h11 f11 => ?_)
      intro sg9 esg
      have o11 : big s11 553 1 := big_fr (tgf_553 g10 hj ho) f11 (by decide)
      have sg01 : pm1 sg9 := by unfold pm1; rw [esg]; split <;> simp
      have sgf : (fu = 1 → sg9 = 1) ∧ (fu = 0 → sg9 = -1) := ⟨fun h => by rw [esg, if_neg (by omega)], fun h => by rw [esg, if_pos h]⟩
      clear esg
      refine add_b h11 o11 (by decide) (by rw [gd557]; decide) sg01 (by rw [rm557]; show (pr.natAbs : Int) + 1 < W24; omega) (fun s12 h12 f12 => ?_)
      obtain ⟨ed, hed⟩ : ∃ ed, ed = pr + sg9 * 1 := ⟨_, rfl⟩
      rw [← hed] at h12
      have edv : ed = pr + sg9 := by omega
      have prr1 : C ≤ pr := by omega
      have prr2 : pr ≤ C + L := by omega
      have edr1 : C ≤ ed := by rcases sg01 with q | q <;> omega
      have edr2 : ed ≤ C + L := by rcases sg01 with q | q <;> omega
      have Zp : 0 < Z := by rw [hZ]; exact p2p _
      have prZ1 : -Z ≤ pr := by omega
      have prZ2 : pr + 1 ≤ Z := by omega
      have prZ3 : pr ≤ Z := by omega
      have edZ1 : -Z ≤ ed := by omega
      have edZ3 : ed ≤ Z := by omega
      have prZ : nabd pr Z := nab_mk prZ1 prZ3
      have edZ : nabd ed Z := nab_mk edZ1 edZ3
      have prs1 : C + 1 ≤ pr := by omega
      have prs2 : pr + 1 ≤ C + L := by omega
      have g12 : tgf j s s12 := tgf_b (tgf_b g10 f11 (by decide) (by decide)) f12 (by decide) (by decide)
      have hf12 : fq s12 lo hi mi ot := fq_b (fq_b hf10 f11 (by decide)) f12 (by decide)
      have k2 : ∀ (v : Nat) (w : Int), v ≠ 557 → big s10 v w → big s12 v w := fun v w hv hb => big_fr (big_fr hb f11 hv) f12 hv
      have fld12 : ∀ f, s12.1 (311 + 3 * j) f = s5.1 (311 + 3 * j) f := fun f => ((fld_b f12 hj (by decide) f).trans (fld_b f11 hj (by decide) f)).trans ((fld_v f10 w3 hj f).trans (fld9 f))
      have b712 : cgf s12 (311 + 3 * j) 7 = b5 := (fld12 7).trans rs5.1
      have hP12 : ply s12 p P := tgf_ply g12 hj p1 p2 hP
      have hd12 : s12.1 p 0 = (d : Int) := tgf_deg g12 hj p1 p2 hd
      have nextN : w32 ((n : Int) + 1) = ((n + 1 : Nat) : Int) := by rw [w32_id (by omega) (by omega)]; omega
      have hA1 : b ≤ b5 + lp := by omega
      have hA2 : b5 + lp ≤ g := by omega
      have hA3 : 1 ≤ 2 * lp := by omega
      have hA4 : 2 * lp ≤ 2000 := by omega
      have hA5 : n + 1 ≤ 10000 := by omega
      have hA6 : -32 ≤ b5 + lp := by omega
      have hA7 : b5 + lp ≤ 640 := by omega
      have prW : nabl pr W24 := nal_mk prZ1 prZ3 pW Zp
      have edW : nabl ed W24 := nal_mk edZ1 edZ3 pW Zp
      have hl1000 : lp ≤ 1000 := by omega
      have hb1 : -1000 ≤ b5 := by omega
      have hb2 : b5 ≤ 1000 := by omega
      have potG := pot_good pot5 l1 l2 l3
      have Z33 : Z = 2 ^ (b5 + lp + 33).toNat := hZ
      rw [(fq_r hf12).2.2.2, b712, w32_id (x := b5 + lp) (by omega) (by omega)]
      refine setValue_b w4 hP12 p1 p2 hd12 bP h12 (Or.inr (Or.inl rfl)) (by omega) (by omega) (by rw [← Z36]; exact le8 edZ) (fun s13 wo hwo vo f13 => ?_)
      have g13 : tgf j s s13 := gfr_trans g12 (svf_tgf w4 f13)
      have hf13 : fq s13 lo hi mi ot := fq_v hf12 f13 w4
      have fld13 : ∀ f, s13.1 (311 + 3 * j) f = s5.1 (311 + 3 * j) f := fun f => (fld_v f13 w4 hj f).trans (fld12 f)
      have left13 : big s13 (311 + 3 * j + 1) c5 := lft_v (lft_b (lft_b (lft_v left9 f10 w3 hj) f11 hj (by decide)) f12 hj (by decide)) f13 w4 hj
      have lo13 : big s13 lo wl := big_v (big_4b (big_4b hwl10 f11 w1 (by decide)) f12 w1 (by decide)) f13 w4 w1 hne.2.2.1
      have mi13 : big s13 mi wm := big_v (big_4b (big_4b hwm f11 w3 (by decide)) f12 w3 (by decide)) f13 w4 w3 hne.2.2.2.2.2
      have hi13 : big s13 hi wh := big_v (big_4b (big_4b hwh10 f11 w2 (by decide)) f12 w2 (by decide)) f13 w4 w2 hne.2.2.2.2.1
      have pr13 : big s13 555 pr := big_pv (big_fr (big_fr pr10 f11 (by decide)) f12 (by decide)) f13 w4
      have ed13 : big s13 557 ed := big_ev h12 f13 w4
      -- where the points lie
      have eC : xv C (b5 + lp) = xv c5 b5 := by rw [hC]; exact xv_up c5 b5 (by omega)
      have eC2 : xv (C + L) (b5 + lp) = xv (c5 + 1) b5 := by
        rw [hC, hL, show c5 * 2 ^ lp.toNat + 2 ^ lp.toNat = (c5 + 1) * 2 ^ lp.toNat by rw [Int.add_mul, Int.one_mul]]
        exact xv_up (c5 + 1) b5 (by omega)
      have inl : ∀ q, C ≤ q → xv c b ≤ xv q (b5 + lp) := fun q h => by
        have := xv_le (b5 + lp) h
        rw [eC] at this; exact Rat.le_trans lo5 this
      have inr : ∀ q, q ≤ C + L → xv q (b5 + lp) ≤ xv (c + 1) b := fun q h => by
        have := xv_le (b5 + lp) h
        rw [eC2] at this; exact Rat.le_trans this hi5
      have sl := vs_s vl
      have sh := vs_s vh
      have sm := vs_s vm
      have so := vs_s vo
      refine take_b hj ⟨(fld13 7).trans rs5.1, left13⟩ hf13 lo13 mi13 hwo pr13 ed13 prW edW fu01 l1 hl1000 hb1 hb2 (fun hit s14 lo' hi' mi' ot' rs14 fr14 lp14 hf14 g14 => ?_) (fun m0 o0 iff s14 rs14 fr14 lp14 hf14 hm14 ho14 g14 => ?_) (fun m0 o0 nif s14 fl14 rw14 lp14 g14 => ?_)
      · -- a zero
        refine ⟨n + 1, _, _, lo', hi', mi', ot', nextN, hA5, rs14, by rw [← Z33]; exact iteZ prZ edZ, hA1, hA2, by rw [lp14]; exact hA3, by rw [lp14]; exact hA4, hf14, gfr_trans g13 g14, Or.inl ⟨fr14, ?_, inl _ (iteL prr1 edr1), inr _ (iteU prr2 edr2)⟩, fun h => absurd (fr14.symm.trans h) (by decide), by rw [lp14]; exact potG⟩
        split
        · rename_i h; exact sm.2.2.1 h
        · rename_i h
          rcases hit with q | q
          · exact absurd q h
          · exact so.2.2.1 q
      · -- a good step
        rcases fu01 with q | q
        · have q1 : ¬ fu = 1 := fun h => absurd (q.symm.trans h) (by decide)
          have e1 : ed + 1 = pr := by rw [edv, sgf.2 q]; exact Int.sub_add_cancel pr 1
          rw [if_neg q1] at rs14
          rw [if_neg q1, if_neg q1] at hf14
          have no : wo.sign = wl.sign := Classical.byContradiction fun h => q1 (iff.2 h)
          have nm : wm.sign ≠ wl.sign := fun h => q1 (fuI.2 h)
          have sgN : pev P (xv ed (b5 + lp)) * pev P (xv (ed + 1) (b5 + lp)) < 0 := by
            rw [e1, rneg_iff]
            rcases pick9 (opp9 sg5 vl vh) no nm m0 with ⟨x1, x2⟩ | ⟨x1, x2⟩
            · exact Or.inl ⟨so.1.1 x1, sm.2.1.1 x2⟩
            · exact Or.inr ⟨so.2.1.1 x1, sm.1.1 x2⟩
          refine ⟨n + 1, ed, b5 + lp, ot, mi, lo, hi, nextN, hA5, rs14, by rw [← Z33]; exact edZ, hA1, hA2, by rw [lp14]; exact hA3, by rw [lp14]; exact hA4, hf14, gfr_trans g13 g14, Or.inr ⟨fr14, ⟨hA6, hA7, by rw [← Z33]; exact edZ1, by rw [← Z33, e1]; exact Int.le_trans (Int.le_of_lt (Int.lt_add_one_of_le (Int.le_refl pr))) prZ2⟩, sgN, inl _ edr1, by rw [e1]; exact inr _ prr2⟩, fun _ => ⟨wo, wm, ho14, hm14, vo, by rw [e1]; exact vm⟩, by rw [lp14]; exact potG⟩
        · have e1 : pr + 1 = ed := by rw [edv, sgf.1 q]
          rw [if_pos q] at rs14
          rw [if_pos q, if_pos q] at hf14
          have nm : wm.sign = wl.sign := fuI.1 q
          have no : wo.sign ≠ wl.sign := iff.1 q
          have sgN : pev P (xv pr (b5 + lp)) * pev P (xv (pr + 1) (b5 + lp)) < 0 := by
            rw [e1, rneg_iff]
            rcases pick9 (opp9 sg5 vl vh) nm no o0 with ⟨x1, x2⟩ | ⟨x1, x2⟩
            · exact Or.inl ⟨sm.1.1 x1, so.2.1.1 x2⟩
            · exact Or.inr ⟨sm.2.1.1 x1, so.1.1 x2⟩
          refine ⟨n + 1, pr, b5 + lp, mi, ot, lo, hi, nextN, hA5, rs14, by rw [← Z33]; exact prZ, hA1, hA2, by rw [lp14]; exact hA3, by rw [lp14]; exact hA4, hf14, gfr_trans g13 g14, Or.inr ⟨fr14, ⟨hA6, hA7, by rw [← Z33]; exact prZ1, by rw [← Z33]; exact prZ2⟩, sgN, inl _ prr1, by rw [e1]; exact inr _ edr2⟩, fun _ => ⟨wm, wo, hm14, ho14, vm, by rw [e1]; exact vo⟩, by rw [lp14]; exact potG⟩
      · -- no step
        have lp2' : 2 ≤ lp := Int.le_of_not_gt fun lt => by
          have l1' : lp = 1 := Int.le_antisymm (Int.le_of_lt_add_one lt) l1
          have L2 : L = 2 := by rw [hL, l1']; rfl
          have ju1 : ju = 1 := by
            rw [L2] at j2
            exact Int.le_antisymm (Int.le_of_lt_add_one j2) j1
          have prC : pr = C + 1 := by rw [hpr, ju1]; rfl
          refine nif ?_
          rcases fu01 with q | q
          · have e1 : ed = C := by rw [edv, sgf.2 q, prC]; exact Int.add_sub_cancel C 1
            rw [e1, eC] at so
            refine ⟨fun h => absurd (q.symm.trans h) (by decide), fun h => absurd ?_ h⟩
            exact same9 (so.1.trans sl.1.symm) (so.2.1.trans sl.2.1.symm)
          · have e1 : ed = C + L := by rw [edv, sgf.1 q, prC, L2, Int.add_assoc]; rfl
            rw [e1, eC2] at so
            refine ⟨fun _ h => ?_, fun _ => q⟩
            exact diff9 (opp9 sg5 vl vh) (so.1.trans sh.1.symm) (so.2.1.trans sh.2.1.symm) h
        have j8 : ¬ (311 + 3 * j = 311 + 3 * j ∧ 1 = 8) := fun z => absurd z.2 (by decide)
        have cpb : ∀ (v : Nat) (w : Int), v ≠ 311 + 3 * j → big s13 v w → big s14 v w := fun v w hv hb => big_co hb (fl14 _ _ (fun z => hv z.1)) (fl14 _ _ (fun z => hv z.1)) (by rw [rw14])
        have fr14 : s14.1 (311 + 3 * j) 1 = 0 := by rw [fl14 _ _ (fun z => absurd z.2 (by decide)), fld13]; exact f0'
        have ne83 : ∀ k, ¬ (83 = 311 + 3 * j ∧ k = 8) := fun k z => ne83l z.1
        have lpN1 : 1 ≤ max 1 (lp / 2) := Int.le_max_left _ _
        have lpN2 : max 1 (lp / 2) ≤ 2000 := hlf9 hl1000
        refine ⟨n + 1, c5, b5, lo, hi, mi, ot, nextN, hA5, ⟨by rw [fl14 _ _ (fun z => absurd z.2 (by decide)), fld13]; exact rs5.1, cpb _ _ (Nat.succ_ne_self _) left13⟩, cb5n, bb5, bg5, by rw [lp14]; exact lpN1, by rw [lp14]; exact lpN2, ⟨⟨by rw [fl14 _ _ (ne83 _)]; exact hf13.1.1, by rw [fl14 _ _ (ne83 _)]; exact hf13.1.2.1, by rw [fl14 _ _ (ne83 _)]; exact hf13.1.2.2.1, by rw [fl14 _ _ (ne83 _)]; exact hf13.1.2.2.2⟩, hf13.2⟩, gfr_trans g13 g14, Or.inr ⟨fr14, cb, sg5, lo5, hi5⟩, fun _ => ⟨wl, wh, cpb _ _ (v4ne w1 hj) lo13, cpb _ _ (v4ne w2 hj) hi13, vl, vh⟩, by rw [lp14]; exact pot_bad pot5 lp2' l3⟩
  · rw [show cgf s (311 + 3 * j) 7 = b from hr.1] at bg
    exact hQ s c b lo hi mi ot hr (cbd_W hcb).1 (Int.le_refl _) (Or.inl (Int.le_refl _)) b2 lp1 lp2 hf (gfr_refl _ _ _) (Or.inr ⟨fr0, hcb, sg, Rat.le_refl, Rat.le_refl⟩) (fun _ => by omega)
