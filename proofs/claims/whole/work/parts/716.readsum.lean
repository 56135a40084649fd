/-! a sum is read -/
def rsI (s0 : im_S) (a : Int × Int × im_S) : Prop := fw [2, 3, 4, 21] sR s0 a.2.2 ∧ atR a.2.2 ∧ wgf s0 4 ≤ wgf a.2.2 4 ∧ (0 ≤ wgf a.2.2 21 ∧ wgf a.2.2 21 ≤ 10) ∧ (wgf a.2.2 2 = 0 → wgf s0 2 = 0 ∧ sI a.2.2 a.1 ∧ (a.2.1 ≠ 0 → wgf a.2.2 21 = 0))
def rsM (a : Int × Int × im_S) : Nat := if a.2.1 ≠ 0 ∨ wgf a.2.2 2 ≠ 0 then 0 else (401 - wgf a.2.2 4).toNat
theorem rs_K {s0 s1 s2 : im_S} {w o w1 : Int} (g : wgf s1 2 = 0) (a1 : atR s1) (g0 : wgf s0 2 = 0) (h1 : fw [2, 3, 4, 21] sR s0 s2) (h2 : atR s2) (h3 : wgf s0 4 ≤ wgf s2 4) (h4 : 0 ≤ wgf s2 21 ∧ wgf s2 21 ≤ 10) (h5 : wgf s2 2 = 0 → o = 0 → wgf s1 4 < wgf s2 4) (h6 : wgf s2 2 = 0 → sI s2 w) (h7 : wgf s2 2 = 0 → o ≠ 0 → wgf s2 21 = 0) : rsI s0 (w, o, s2) ∧ rsM (w, o, s2) < rsM (w1, 0, s1) := by
  refine ⟨⟨h1, h2, h3, h4, fun z => ⟨g0, h6 z, h7 z⟩⟩, ?_⟩
  unfold rsM
  dsimp only
  unfold atR at a1 h2
  rw [if_neg (show ¬ ((0 : Int) ≠ 0 ∨ wgf s1 2 ≠ 0) by first | omega | (dsimp only; omega))]
  split
  · omega
  · rename_i q
    have := h5 (by first | omega | (dsimp only; omega)) (by first | omega | (dsimp only; omega))
    omega
theorem readSum_ok {s : im_S} {Q : im_S → Prop} (ha : atR s) (hQ : ∀ s' : im_S, fw [2, 3, 4, 21] sR s s' → atR s' → wgf s 4 ≤ wgf s' 4 → (wgf s' 2 = 0 → wgf s 2 = 0 ∧ tf s' 589 0) → Q s') : W_readSum s Q := by
  unfold W_readSum
  intro s1 e1
  have ha' := ha
  unfold atR at ha'
  have x21 : wgf s1 21 = 0 := by rw [e1, wf_same]
  have x4 : wgf s1 4 = wgf s 4 := by rw [e1, wf_ne (by first | decide | omega | (dsimp only; omega) | (dsimp only; decide))]
  have x1 : wgf s1 1 = wgf s 1 := by rw [e1, wf_ne (by first | decide | omega | (dsimp only; omega) | (dsimp only; decide))]
  have x2 : wgf s1 2 = wgf s 2 := by rw [e1, wf_ne (by first | decide | omega | (dsimp only; omega) | (dsimp only; decide))]
  have m1 : fw [2, 3, 4, 21] sR s s1 := by rw [e1]; exact fw_pf fw_rfl (by first | decide | omega | (dsimp only; omega) | (dsimp only; decide))
  refine beginSum_ok (d := 0) (by unfold atR; first | omega | (dsimp only; omega)) x21 (by first | decide | omega | (dsimp only; omega) | (dsimp only; decide)) (fun s2 b1 b2 b3 b4 b5 b6 b7 b8 => ?_)
  have y21 : wgf s2 21 = 0 := by rw [fw_f b1 21 (by first | decide | omega | (dsimp only; omega) | (dsimp only; decide))]; exact x21
  have y2 := fw_f b1 2 (by first | decide | omega | (dsimp only; omega) | (dsimp only; decide))
  have m2 : fw [2, 3, 4, 21] sR s s2 := fw_tr m1 (fw_mono b1 (by simp) (by simp))
  refine ⟨rsI s, rsM, ⟨m2, b2, by first | omega | (dsimp only; omega), by first | omega | (dsimp only; omega), fun z => ⟨by dsimp only at z; omega, ⟨fun e e0 e9 => ?_, fun c => absurd c (by first | decide | omega | (dsimp only; omega) | (dsimp only; decide))⟩, fun c => absurd rfl c⟩⟩, ?_⟩
  · dsimp only at e9 ⊢
    rw [show e = 0 by first | omega | (dsimp only; omega)]
    exact ⟨b6, b7, fun w => by rw [b8] at w; exact absurd w (by first | decide | omega | (dsimp only; omega) | (dsimp only; decide))⟩
  rintro ⟨l1, l2, s3⟩ ⟨i1, i2, i3, i4, i5⟩
  dsimp only at i1 i2 i3 i4 i5 ⊢
  have fin : (l2 ≠ 0 ∨ wgf s3 2 ≠ 0) → Q s3 := fun h => hQ s3 i1 i2 i3 (fun z => by
    obtain ⟨z1, z2, z3⟩ := i5 z
    have z4 := z3 (by first | omega | (dsimp only; omega))
    exact ⟨z1, (z2.1 0 (by first | decide | omega | (dsimp only; omega) | (dsimp only; decide)) (by first | omega | (dsimp only; omega))).1⟩)
  unfold W_readSum_13 W_readSum_174
  refine ⟨fun c => fin (Or.inl c), fun c0 => good_ok (fun g => ⟨fun c => absurd c (by first | decide | omega | (dsimp only; omega) | (dsimp only; decide)), fun _ => ?_⟩) (fun g => ⟨fun _ => fin (Or.inr g), fun c => absurd rfl c⟩)⟩
  subst c0
  obtain ⟨g0, I3, _⟩ := i5 g
  refine peek_ok i2 (fun z s4 c1 c2 c3 c4 => ?_)
  have m4 : fw [2, 3, 4, 21] sR s s4 := fw_tr i1 (fw_mono c1 (by simp) (by simp))
  have w2 : wgf s4 2 = wgf s3 2 := fw_f c1 2 (by first | decide | omega | (dsimp only; omega) | (dsimp only; decide))
  have w21 : wgf s4 21 = wgf s3 21 := fw_f c1 21 (by first | decide | omega | (dsimp only; omega) | (dsimp only; decide))
  have g4 : wgf s4 2 = 0 := by first | omega | (dsimp only; omega)
  have rows : ∀ (c : Nat) (i : Int), wga s4 c i = wga s3 c i := fun c i => fw_r c1 c i (by simp)
  have lvs : ∀ e : Int, 0 ≤ e → e ≤ wgf s4 21 → lv s4 e := fun e e0 e9 => by
    obtain ⟨p1, p2, p3⟩ := I3.1 e e0 (by first | omega | (dsimp only; omega))
    exact ⟨tf_co (fun k _ _ => rows _ _) p1, by rw [rows]; exact p2, fun w => tf_co (fun k _ _ => rows _ _) (p3 (by rw [← rows]; exact w))⟩
  have cR : z ≠ -1 → wgf s4 4 < wgf s4 1 ∧ z = wga s4 583 (wgf s4 4) := fun h => ⟨(c4 h).1, by rw [rows]; exact (c4 h).2⟩
  have a4 := c2
  unfold atR at a4
  refine ⟨fun l0 => ?_, fun l0 => ?_⟩
  · have t0 : tf s4 590 (wgf s4 21) := by
      rw [w21]
      exact tf_co (fun k _ _ => rows _ _) (I3.2 l0)
    refine ⟨fun c42 => ?_, fun c42 => ⟨by first | omega | (dsimp only; omega), fun s5 e5 => ?_⟩⟩
    · obtain ⟨q1, q2, q3⟩ := lvs (wgf s4 21) (by first | omega | (dsimp only; omega)) (Int.le_refl _)
      refine endTerm_ok (d := wgf s4 21) rfl (by first | omega | (dsimp only; omega)) q1 t0 q2 (fun s5 d1 d2 d3 d4 d5 => ?_)
      have m5 : fw [2, 3, 4, 21] sR s s5 := fw_tr m4 (fw_mono d1 (by simp) (by simp))
      have v4 := fw_f d1 4 (by first | decide | omega | (dsimp only; omega) | (dsimp only; decide))
      have v1 := fw_f d1 1 (by first | decide | omega | (dsimp only; omega) | (dsimp only; decide))
      have v21 := fw_f d1 21 (by first | decide | omega | (dsimp only; omega) | (dsimp only; decide))
      have a5 : atR s5 := by unfold atR; first | omega | (dsimp only; omega)
      have lv5 : wgf s5 2 = 0 → ∀ e : Int, 0 ≤ e → e ≤ wgf s5 21 → lv s5 e := fun zz e e0 e9 => by
        obtain ⟨p1, p2, p3⟩ := lvs e e0 (by first | omega | (dsimp only; omega))
        by_cases q : e = wgf s4 21
        · rw [q]
          exact ⟨(d5 zz).2, by rw [fw_r d1 _ _ (by first | decide | omega | (dsimp only; omega) | (dsimp only; decide))]; exact q2, fun w => by rw [d4] at w; exact absurd w (by first | decide | omega | (dsimp only; omega) | (dsimp only; decide))⟩
        · exact ⟨tf_co (fun k k0 k9 => d2 _ (by first | omega | (dsimp only; omega)) (by first | omega | (dsimp only; omega))) p1, by rw [fw_r d1 _ _ (by first | decide | omega | (dsimp only; omega) | (dsimp only; decide))]; exact p2, fun w => tf_co (fun k _ _ => fw_r d1 _ _ (by first | decide | omega | (dsimp only; omega) | (dsimp only; decide))) (p3 (by rw [← d3 e e0 q]; exact w))⟩
      have t5 : tf s5 590 (wgf s5 21) := by
        rw [v21]
        exact tf_co (fun k _ _ => fw_r d1 _ _ (by first | decide | omega | (dsimp only; omega) | (dsimp only; decide))) t0
      have over : (wgf s5 2 = 0 → wgf s5 21 ≤ 0) → rsI s (l1, 1, s5) ∧ rsM (l1, 1, s5) < rsM (l1, 0, s3) := fun h => rs_K g i2 g0 m5 a5 (by first | omega | (dsimp only; omega)) (by first | omega | (dsimp only; omega)) (fun _ w => absurd w (by first | decide | omega | (dsimp only; omega) | (dsimp only; decide))) (fun zz => ⟨lv5 zz, fun _ => t5⟩) (fun zz _ => by have := h zz; omega)
      have u147 : W_readSum_147 (fun b => rsI s b ∧ rsM b < rsM (l1, 0, s3)) l1 0 z s5 Q := by
        unfold W_readSum_147 W_readSum_169 W_readSum_171
        refine good_ok (fun gg => ⟨fun c => absurd c (by first | decide | omega | (dsimp only; omega) | (dsimp only; decide)), fun _ => ⟨fun le => over (fun _ => le), fun gt => ?_⟩⟩) (fun gg => ⟨fun _ => over (fun zz => absurd zz gg), fun c => absurd rfl c⟩)
        refine endBracket_ok a5 (by first | omega | (dsimp only; omega)) gg (fun h => by have := (cR h).1; omega) (lv5 gg) (fun s6 k1 k2 k3 k4 k5 => ?_)
        exact rs_K g i2 g0 (fw_tr m5 k1) k2 (by first | omega | (dsimp only; omega)) k4 (fun zz _ => by have := (k5 zz).1; omega) (fun zz => by rw [l0]; exact (k5 zz).2) (fun _ w => absurd rfl w)
      have u99 : z ≠ -1 → wgf s5 2 = 0 → W_readSum_99 (fun b => rsI s b ∧ rsM b < rsM (l1, 0, s3)) 0 z s5 Q := fun hz gg => by
        have lt := (cR hz).1
        unfold W_readSum_99 W_readSum_171
        intro v hv
        refine ⟨by first | omega | (dsimp only; omega), fun s6 e6 => ?_⟩
        have p21 : wgf s6 21 = wgf s5 21 := by rw [e6]; rfl
        refine ⟨by first | omega | (dsimp only; omega), fun s7 e7 => ?_⟩
        have r4 : wgf s7 4 = wgf s5 4 := by rw [e7, e6]; rfl
        refine ⟨by unfold iR; first | omega | (dsimp only; omega), fun s8 e8 => ?_⟩
        have t4 : wgf s8 4 = wgf s5 4 + 1 := by rw [e8, wf_same, r4]
        have t1 : wgf s8 1 = wgf s5 1 := by rw [e8, wf_ne (by first | decide | omega | (dsimp only; omega) | (dsimp only; decide)), e7, e6]; rfl
        have t21 : wgf s8 21 = wgf s5 21 := by rw [e8, wf_ne (by first | decide | omega | (dsimp only; omega) | (dsimp only; decide)), e7, e6]; rfl
        refine rs_K g i2 g0 (by rw [e8, e7, e6]; exact fw_pf (fw_pa (fw_pa m5 (by first | decide | omega | (dsimp only; omega) | (dsimp only; decide))) (by first | decide | omega | (dsimp only; omega) | (dsimp only; decide))) (by first | decide | omega | (dsimp only; omega) | (dsimp only; decide))) (by unfold atR; first | omega | (dsimp only; omega)) (by first | omega | (dsimp only; omega)) (by first | omega | (dsimp only; omega)) (fun _ _ => by first | omega | (dsimp only; omega)) (fun zz => ⟨fun e e0 e9 => ?_, fun w => absurd w (by first | decide | omega | (dsimp only; omega) | (dsimp only; decide))⟩) (fun _ w => absurd rfl w)
        obtain ⟨p1, p2, p3⟩ := lv5 gg e e0 (by first | omega | (dsimp only; omega))
        have rr : ∀ (c : Nat) (i : Int), c ≠ 593 → c ≠ 594 → wga s8 c i = wga s5 c i := fun c i h1 h2 => by rw [e8, wg_pf, e7, wg_row h2, e6, wg_row h1]
        refine ⟨tf_co (fun k _ _ => rr _ _ (by first | decide | omega | (dsimp only; omega) | (dsimp only; decide)) (by first | decide | omega | (dsimp only; omega) | (dsimp only; decide))) p1, ?_, fun w => tf_co (fun k _ _ => rr _ _ (by first | decide | omega | (dsimp only; omega) | (dsimp only; decide)) (by first | decide | omega | (dsimp only; omega) | (dsimp only; decide))) (p3 (by rw [← rr _ _ (by first | decide | omega | (dsimp only; omega) | (dsimp only; decide)) (by first | decide | omega | (dsimp only; omega) | (dsimp only; decide))]; exact w))⟩
        rw [e8, wg_pf, e7, wg_row (by first | decide | omega | (dsimp only; omega) | (dsimp only; decide)), e6]
        by_cases q : e = wgf s5 21
        · rw [q, wg_same, hv]
          split
          · exact Or.inr rfl
          · exact Or.inl rfl
        · rw [wg_ne (by first | omega | (dsimp only; omega)) e0 q]
          exact p2
      refine good_ok (fun gg => ⟨fun c => absurd c (by first | decide | omega | (dsimp only; omega) | (dsimp only; decide)), fun _ => ⟨fun h => u99 (by first | omega | (dsimp only; omega)) gg, fun _ => ⟨fun _ => u147, fun h => u99 (by first | omega | (dsimp only; omega)) gg⟩⟩⟩) (fun gg => ⟨fun _ => u147, fun c => absurd rfl c⟩)
    · have lt := (cR (by first | omega | (dsimp only; omega))).1
      have p4 : wgf s5 4 = wgf s4 4 := by rw [e5]; rfl
      refine ⟨by unfold iR; first | omega | (dsimp only; omega), fun s6 e6 => ?_⟩
      unfold W_readSum_171
      have t4 : wgf s6 4 = wgf s4 4 + 1 := by rw [e6, wf_same, p4]
      have t1 : wgf s6 1 = wgf s4 1 := by rw [e6, wf_ne (by first | decide | omega | (dsimp only; omega) | (dsimp only; decide)), e5]; rfl
      have t21 : wgf s6 21 = wgf s4 21 := by rw [e6, wf_ne (by first | decide | omega | (dsimp only; omega) | (dsimp only; decide)), e5]; rfl
      refine rs_K g i2 g0 (by rw [e6, e5]; exact fw_pf (fw_pa m4 (by first | decide | omega | (dsimp only; omega) | (dsimp only; decide))) (by first | decide | omega | (dsimp only; omega) | (dsimp only; decide))) (by unfold atR; first | omega | (dsimp only; omega)) (by first | omega | (dsimp only; omega)) (by first | omega | (dsimp only; omega)) (fun _ _ => by first | omega | (dsimp only; omega)) (fun zz => ⟨fun e e0 e9 => ?_, fun w => absurd w (by first | decide | omega | (dsimp only; omega) | (dsimp only; decide))⟩) (fun _ w => absurd rfl w)
      obtain ⟨p1, p2, p3⟩ := lvs e e0 (by first | omega | (dsimp only; omega))
      have rr : ∀ (c : Nat) (i : Int), c ≠ 595 → wga s6 c i = wga s4 c i := fun c i h1 => by rw [e6, wg_pf, e5, wg_row h1]
      refine ⟨tf_co (fun k _ _ => rr _ _ (by first | decide | omega | (dsimp only; omega) | (dsimp only; decide))) p1, by rw [rr _ _ (by first | decide | omega | (dsimp only; omega) | (dsimp only; decide))]; exact p2, fun w => tf_co (fun k _ _ => rr _ _ (by first | decide | omega | (dsimp only; omega) | (dsimp only; decide))) ?_⟩
      by_cases q : e = wgf s4 21
      · rw [q]; exact t0
      · refine p3 ?_
        rw [e6, wg_pf, e5, wg_ne (by first | omega | (dsimp only; omega)) e0 q] at w
        exact w
  · refine takeBase_ok c2 (by first | omega | (dsimp only; omega)) g4 cR ⟨lvs, fun w => absurd w (by first | decide | omega | (dsimp only; omega) | (dsimp only; decide))⟩ (fun v s5 k1 k2 k3 k4 k5 => ?_)
    unfold W_readSum_171
    exact rs_K g i2 g0 (fw_tr m4 k1) k2 (by first | omega | (dsimp only; omega)) k4 (fun zz _ => by have := (k5 zz).1; omega) (fun zz => (k5 zz).2) (fun _ w => absurd rfl w)
