/-! findRoots, whole -/
theorem findRoots_ok {s : im_S} {b : Int} {R0 : Nat} {P : List Int} {Q : im_S → Prop} (hb0 : 0 ≤ b ∧ b < 200) (hf : pol s (wga s 602 b) P) (hP : bs P) (hR : R0 + P.length ≤ 81) (h41 : wgf s 41 = R0) (h52 : wgf s 52 = R0) (hp : wgf s 28 + 60 ≤ 1200) (h0 : 0 ≤ wgf s 24) (hm : wgf s 24 + 570000 ≤ 684000) (hQ : ∀ (s' : im_S) (c : Nat → List Int) (N k : Nat) (lf rf : Nat → Rat) (Lmin Rend : Rat) (f : Int) (F : List Int), fro (wgf s 24) (wgf s 28) R0 s s' → wgf s 28 ≤ wgf s' 28 ∧ wgf s' 28 ≤ wgf s 28 + 1 → wgf s 24 ≤ wgf s' 24 ∧ wgf s' 24 ≤ wgf s 24 + 40 → k + 1 ≤ P.length → stu c (N - 1) → c 0 = P → rtl c N s' R0 b P Lmin Rend k lf rf → (∀ y : Rat, pev P y = 0 → Lmin < y ∧ y ≤ Rend) → rsp c N s' R0 P lf rf k F → ((∀ r : Nat, r < k → wga s' 609 ((R0 + r : Nat) : Int) ≠ 0) ∨ pol s' f F) → (∀ r : Nat, r < k → wga s' 609 ((R0 + r : Nat) : Int) = 0 → rti s' ((R0 + r : Nat) : Int) f F (lf r) (rf r)) → pol s' (wga s' 602 b) P → Q s') : W_findRoots b s Q := by
  unfold W_findRoots
  obtain ⟨n, hn⟩ : ∃ n, P.length = n + 1 := ⟨P.length - 1, by have := hP.2.2.1; omega⟩
  have gP := hP.1.1
  have gP1 := gP.2.1
  have hL : 0 < pgt P n := by
    have z := gP.2.2.2.1
    rw [show P.length - 1 = n by omega] at z
    exact z
  have hab := fct_pab hP.1
  have f28 := hf.1
  have f28b := hf.2.1
  refine ⟨hb0, makeChain_st hf hP (by omega) h0 (by omega) (fun s1 c N a1 a2 a3 a4 a5 a6 a7 a8 a9 a10 => ?_)⟩
  have R80 : (R0 : Int) ≤ 80 := by omega
  have fr1 : fro (wgf s 24) (wgf s 28) R0 s s1 := pw_fro a1 (Int.le_refl _) (Int.le_refl _) R80 (fun f h => Or.inl (List.mem_singleton.1 h)) (fun c h => Or.inl (List.mem_singleton.1 h)) (fun c i hc _ _ => pw_r a1 (by omega) (by omega) (by omega) (fun z => by
    have := List.mem_singleton.1 z
    omega))
  have p1 : pol s1 (wga s 602 b) P := fro_pol fr1 a2 a4 (by omega) hf
  have lz := lim_zero
  refine whole_ok ⟨by decide, by decide⟩ (by omega) (by omega) (fun s2 b1 b2 b3 => ?_)
  have p2 := st_pol b1 p1
  have c2 := st_chn b1 a10
  have s28 := st_28 b1
  have fr2 : fro (wgf s 24) (wgf s 28) R0 s s2 := fro_tr fr1 (fwr_fro (st_fwr b1 (Int.le_refl _) R80) a2)
  have g41 : wgf s2 41 = R0 := by rw [ag_f b1.1 (by decide) (by decide), pw_f a1 (by decide)]; exact h41
  have g52 : wgf s2 52 = R0 := by rw [ag_f b1.1 (by decide) (by decide), pw_f a1 (by decide)]; exact h52
  refine findRoots_37 p2 hn hab b2 (fun x G d1 d2 d3 => ?_)
  refine findRoots_85 p2 hn hab hL d1 d2 R80 g41 (by omega) (by omega) (fun s3 m e1 e2 e3 e4 e5 e6 e7 e8 e9 e10 => ?_)
  have fr3 : fro (wgf s 24) (wgf s 28) R0 s s3 := fro_tr fr2 (fwr_fro e4 (by omega))
  have s328 : wgf s3 28 = wgf s2 28 := fwr_f e4 (by decide) (by decide) (by decide) (by decide)
  have p3 : pol s3 (wga s 602 b) P := fro_pol fr3 (by omega) (by omega) (by omega) hf
  have r6 : ∀ s' : im_S, fro (wgf s 24) (wgf s 28) R0 s s' → wga s' 602 b = wga s 602 b := fun s' h => h.2 602 b.toNat (by omega) (by omega) (by omega) (by decide) (by decide) (by omega) (by decide) (by decide)
  have c3 : chn s3 c N 56 := by
    refine ⟨by rw [fwr_f e4 (by decide) (by decide) (by decide) (by decide)]; exact c2.1, c2.2.1, fun j hj => ?_⟩
    rw [fwr_r e4 (by decide) (by decide) (by decide) (by decide)]
    have z := c2.2.2 j hj
    exact ⟨fwr_pol e4 (Int.le_refl _) e7 (by omega) z.1 (fun i hi => (z.1.2.2.2.2.2 i hi).2), z.2⟩
  have v0 := vf_nn a9 0 (-(m : Int))
  have v1 := vf_nn a9 (-1) (-(m : Int))
  have vs := two_v (c := c) (N := N) (by omega) (-(m : Int))
  have ms := two_m (e := -(m : Int)) (by omega) (by omega) v0 v1 (by omega)
  have out : ∀ x : Rat, wd (-(m : Int)) ≤ x ∨ x ≤ -wd (-(m : Int)) → pev P x ≠ 0 := fun x hx => no_out hn hL d3 e3 hx
  have eL : ((-1 : Int) : Rat) * wd (-(m : Int)) = -wd (-(m : Int)) := by
    have : ((-1 : Int) : Rat) = -1 := rfl
    rw [this]; grind
  have eR : (((0 : Int) : Rat) + 1) * wd (-(m : Int)) = wd (-(m : Int)) := by
    have : ((0 : Int) : Rat) = 0 := rfl
    rw [this]; grind
  refine findRoots_191 (D := n) (M := (m : Int)) (H0 := fun i => if i = 0 then 0 else -1) (E0 := fun _ => -(m : Int)) (B := 0 + mbu (-(m : Int)) (vfall c N 0 (-(m : Int))) + mbu (-(m : Int)) (vfall c N (-1) (-(m : Int)))) (Lmin := ((-1 : Int) : Rat) * wd (-(m : Int))) (Rend := (((0 : Int) : Rat) + 1) * wd (-(m : Int))) hb0 (by rw [r6 s3 fr3]; exact p3) hP a6 a9 (by omega) c3 (by omega) ⟨by omega, by omega⟩ (by rw [e5]; exact g41) (by rw [e6]; exact g52) (fun i hi => ?_) (two_c _) rfl rfl ?_ (by omega) rfl (by omega) (fun s4 k lf rf g1 g2 g3 g4 g5 g6 g7 => ?_)
  · by_cases ei : i = 0
    · subst ei; exact e9
    · have e1 : i = 1 := by omega
      subst e1; exact e10
  · show 0 + vfall c N 0 (-(m : Int)) + vfall c N (-1) (-(m : Int)) ≤ (n : Int)
    omega
  have fr4 : fro (wgf s 24) (wgf s 28) R0 s s4 := fro_tr fr3 (fwr_fro g1 (by omega))
  have s428 : wgf s4 28 = wgf s3 28 := fwr_f g1 (by decide) (by decide) (by decide) (by decide)
  have hLm : pev P (((-1 : Int) : Rat) * wd (-(m : Int))) ≠ 0 := out _ (Or.inr (by rw [eL]; exact Rat.le_refl))
  refine restRoots_ok hb0 g7 hP a9 a6 hLm (by omega) (by omega) g5 (by omega) (by omega) (by omega) (fun s5 f F k1 k2 k3 k4 k5 k6 k7 k8 k9 k10 => ?_)
  have m4 : ∀ c : Nat, c ∈ pR4 → c = 600 ∨ c = 601 ∨ c = 610 ∨ c = 613 := fun c h => by
    rcases List.mem_cons.1 h with w | w
    · omega
    · have := List.mem_singleton.1 w
      omega
  have m4' : ∀ c : Nat, c ∈ pR4 → c = 601 ∨ c = 610 ∨ c = 613 := fun c h => by
    rcases List.mem_cons.1 h with w | w
    · omega
    · have := List.mem_singleton.1 w
      omega
  have fr5 : fro (wgf s 24) (wgf s 28) R0 s s5 := fro_tr fr4 (pw_fro k1 (by omega) (by omega) R80 (fun f h => nomatch h) m4 k10)
  have rt5 := pw_rtl k1 (by omega) (fun f h => nomatch h) m4' g5
  refine findRoots_358 (f := f) (F := F) (k := k) (lf := lf) (rf := rf) ⟨by omega, by omega⟩ (by omega) ⟨h0, by omega⟩ k6 k7.1 (fun q i hi => ?_) rt5.1 (by omega) k9 (fun s6 g u1 u2 u3 u4 u5 u6 => ?_)
  · rcases k8 with ⟨w1, w2⟩ | w
    · rw [r6 s4 fr4] at w1
      subst w2
      have z := hf.2.2.2.2.2 i hi
      have zz : wga s5 599 (9 * f + i) = wga s 599 (9 * wga s 602 b + i) := by
        rw [w1]
        exact fr5.2 599 (9 * wga s 602 b + (i : Int)).toNat (by omega) (by omega) (by omega) (by decide) (by decide) (by omega) (by decide) (by decide)
      rw [zz]
      exact z.2
    · omega
  · have m6 : ∀ c : Nat, c ∈ [601, 610] → c = 600 ∨ c = 601 ∨ c = 610 ∨ c = 613 := fun c h => by
      rcases List.mem_cons.1 h with w | w
      · omega
      · have := List.mem_singleton.1 w
        omega
    have m6' : ∀ c : Nat, c ∈ [601, 610] → c = 601 ∨ c = 610 ∨ c = 613 := fun c h => by
      rcases List.mem_cons.1 h with w | w
      · omega
      · have := List.mem_singleton.1 w
        omega
    have f6 : ∀ f : Nat, f ∈ [32, 33] → f = 32 ∨ f = 33 := fun c h => by
      rcases List.mem_cons.1 h with w | w
      · omega
      · have := List.mem_singleton.1 w
        omega
    have fr6 : fro (wgf s 24) (wgf s 28) R0 s s6 := fro_tr fr5 (pw_fro u1 (Int.le_refl _) (Int.le_refl _) R80 (fun f h => Or.inr (f6 f h)) m6 (fun c i hc i0 i1 => by
      rcases hc with w | w
      · subst w; exact u2 i i0 i1
      · subst w; exact pw_r u1 (by decide) (by decide) (by decide) (by decide)))
    have rt6 := pw_rtl u1 (by omega) f6 m6' rt5
    have r9 : ∀ i : Int, wga s6 609 i = wga s5 609 i := fun i => pw_r u1 (by decide) (by decide) (by decide) (by decide)
    have r9' : ∀ i : Int, wga s5 609 i = wga s4 609 i := fun i => pw_r k1 (by decide) (by decide) (by decide) (by decide)
    have r8 : ∀ i : Int, wga s6 608 i = wga s4 608 i := fun i => (pw_r u1 (by decide) (by decide) (by decide) (by decide)).trans (pw_r k1 (by decide) (by decide) (by decide) (by decide))
    refine hQ s6 c N k lf rf _ _ g F fr6 u3 u4 (by omega) a9 a6 rt6 (fun y hy => ?_) (rsp_mv k7 r8 (fun i => (r9 i).trans (r9' i))) ?_ (fun r hr hz => u6 r hr (by rw [← r9]; exact hz)) ?_
    · rw [eL, eR]
      refine ⟨?_, ?_⟩
      · exact Rat.not_le.1 (fun h => out y (Or.inr h) hy)
      · exact Rat.le_of_lt (Rat.not_le.1 (fun h => out y (Or.inl h) hy))
    · rcases u5 with w | w
      · exact Or.inl (fun r hr => by rw [r9]; exact w r hr)
      · exact Or.inr w
    · rw [r6 s6 fr6]
      exact fro_pol fr6 u4.1 u3.1 (by omega) hf
