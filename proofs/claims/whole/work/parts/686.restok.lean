/-! restRoots, whole -/
theorem restRoots_ok {s : im_S} {b : Int} {c : Nat → List Int} {N R0 k : Nat} {P : List Int} {Lmin Rend : Rat} {lf rf : Nat → Rat} {Q : im_S → Prop} (hb0 : 0 ≤ b ∧ b < 200) (hf : pol s (wga s 602 b) P) (hP : bs P) (hst : stu c (N - 1)) (hc0 : c 0 = P) (hLm : pev P Lmin ≠ 0) (hk : R0 + k ≤ 80) (hk8 : k ≤ 8) (hr : rtl c N s R0 b P Lmin Rend k lf rf) (hp : wgf s 28 + 30 ≤ 1200) (h0 : 0 ≤ wgf s 24) (hm : wgf s 24 + 84000 ≤ 684000) (hQ : ∀ (s' : im_S) (f : Int) (F : List Int), pw [] pR4 (wgf s 24) (wgf s 28) s s' → wgf s 28 ≤ wgf s' 28 → wgf s' 28 ≤ wgf s 28 + 24 → wgf s 24 ≤ wgf s' 24 → wgf s' 24 ≤ wgf s 24 + 33300 → pol s' f F → rsp c N s R0 P lf rf k F → ((f = wga s 602 b ∧ F = P) ∨ wgf s 28 ≤ f) → (∀ r : Nat, r < k → wga s' 609 ((R0 + r : Nat) : Int) = 0 → rti s' ((R0 + r : Nat) : Int) f F (lf r) (rf r)) → (∀ (c : Nat) (i : Int), c = 610 ∨ c = 613 → 0 ≤ i → i < (R0 : Int) → wga s' c i = wga s c i) → Q s') : W_restRoots b (R0 : Int) s Q := by
  refine restRoots_10 hb0 hf hP hk hk8 hr hp h0 (by omega) (fun s1 f F a1 a2 a3 a4 a5 a6 => ?_)
  have r1 := ps_rtl a1 hk hr
  have a13 := a1.2.2.1
  have a14 := a1.2.2.2
  refine restRoots_92 (lf := lf) (rf := rf) a4 a5.1 hk hk8 r1.1 (fun r hrk hz => ?_) (by omega) (by omega) (fun s' b1 b2 b3 b4 b5 b6 b7 => ?_)
  · obtain ⟨fF, Pi, z, e1, e2, e3, e4, e5, e6⟩ := a5
    refine rest_flip hst hc0 hP.2.1 r1 hLm e1 e2 e4 (fun r y q1 q2 q3 q4 => ?_) hrk hz
    rw [ps_r a1 (by decide) (by decide) (by decide)] at q2 q3
    exact e6 r y q1 q2 q3 q4
  · exact hQ s' f F (pw_tr (ps_pw a1 (Int.le_refl _) (Int.le_refl _)) (pw_mono b1 (fun _ h => h) (fun _ h => h) a13 a14)) (by omega) (by omega) (by omega) (by omega) b5 a5 a6 b6 (fun c i hc c0 c1 => by rw [b7 c i hc c0 c1]; rcases hc with q | q <;> (subst q; exact ps_r a1 (by decide) (by decide) (by decide)))
