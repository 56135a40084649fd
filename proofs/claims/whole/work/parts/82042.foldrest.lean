theorem BF_m {s : im_S} {n m m' : Nat} {p : Nat → List Int} {M : Nat → Nat → Nat} (h : BF s n p M m) (hm : m ≤ m') : BF s n p M m' := ⟨h.1, h.2.1, fun e i he hi => ⟨(h.2.2 e i he hi).1, Nat.le_trans (h.2.2 e i he hi).2 hm⟩⟩
theorem fd_fl {s s' : im_S} (h : fdf s s') : flf s s' := gfr_mono h (fun c k e => by omega) (fun c e => by omega)
theorem py_fl {s s' : im_S} (h : pyf 263 s s') : flf s s' := gfr_mono h (fun c k e => by omega) (fun c e => by omega)
theorem sp_fl {s s' : im_S} (h : spf s s') : flf s s' := gfr_mono h (fun c k e => by omega) (fun c e => by omega)
theorem fd_BI {s s' : im_S} {n : Nat} {D : Int} (h : BI s n D) (f : fdf s s') (hd : dI s') : BI s' n D := BI_co h f (fun e he => by omega) (fun e he => by omega) (by omega) hd
theorem py_BI {s s' : im_S} {n : Nat} {D : Int} (h : BI s n D) (f : pyf 263 s s') : BI s' n D := BI_co h f (fun e he => by omega) (fun e he => by omega) (by omega) (dI_co h.2.2.2.2 f (by omega) (by omega))
theorem fd_BF {s s' : im_S} {n m : Nat} {p : Nat → List Int} {M : Nat → Nat → Nat} (h : BF s n p M m) (f : fdf s s') (n80 : n ≤ 80) : BF s' n p M m := BF_co h f n80 (fun e he => by omega) (fun e he => by omega) (by omega)
theorem py_BF {s s' : im_S} {n m : Nat} {p : Nat → List Int} {M : Nat → Nat → Nat} (h : BF s n p M m) (f : pyf 263 s s') (n80 : n ≤ 80) : BF s' n p M m := BF_co h f n80 (fun e he => by omega) (fun e he => by omega) (by omega)
theorem fd_ds {s s' : im_S} {n : Nat} {D : Int} (h : dsp s n + s.1 265 0 ≤ D) (f : fdf s s') (n80 : n ≤ 80) : dsp s' n + s'.1 265 0 ≤ D := by rw [dsp_co (s := s) (fun e he => f.1 _ _ (by omega)), f.1 _ _ (by omega)]; exact h
theorem py_ds {s s' : im_S} {n : Nat} {D : Int} (h : dsp s n + s.1 265 0 ≤ D) (f : pyf 263 s s') (n80 : n ≤ 80) : dsp s' n + s'.1 265 0 ≤ D := by rw [dsp_co (s := s) (fun e he => f.1 _ _ (by omega)), f.1 _ _ (by omega)]; exact h
theorem opc_e {e : Nat} (h : e < 80) : opc (86 + 2 * e) := by unfold opc; omega
theorem opc_265 : opc 265 := by unfold opc; omega
theorem nzp_d {P : List Int} (h : ∃ k, pgt P k ≠ 0) : nzp P := h
/-- a piece is split by the shared part -/
theorem split_BF {s s' : im_S} {n m e : Nat} {p : Nat → List Int} {M : Nat → Nat → Nat} {G K P : List Int} (hF : BF s n p M m) (he : e < n) (hP : ply s (86 + 2 * e) P) (e1 : ∀ x : Rat, pev P x = pev G x * pev K x) (lG : lps G) (k1 : ply s' (86 + 2 * e) K) (g1 : ply s' (86 + 2 * n) G) (kp : ∀ e', e' < n → e' ≠ e → ∀ P, ply s (86 + 2 * e') P → ply s' (86 + 2 * e') P) (rj : ∀ j, j < 10 * n → s'.2 246 j = s.2 246 j) (rk : ∀ k, k < 10 → s'.2 246 (10 * n + k) = s.2 246 (10 * e + k)) : (∀ x : Rat, pev (p e) x = pev G x * pev K x) ∧ BF s' (n + 1) (fun j => if j = n then G else if j = e then K else p j) (fun j i => if j = n then M e i else M j i) m := by
  have pe := hF.1 e he
  have same : ∀ x : Rat, pev (p e) x = pev P x := fun x => pev_eq (fun k => by
    by_cases k9 : k < 9
    · rw [← pe.1.1 k k9, ← hP.1 k k9]
    · rw [ply_9 pe.1 k (by omega), ply_9 hP k (by omega)]) x
  have ev : ∀ x : Rat, pev (p e) x = pev G x * pev K x := fun x => by rw [same x]; exact e1 x
  have cKG : cop G K := cop_sq pe.2.2.1 ev
  have dvG : dvz G (p e) := ⟨K, ev⟩
  have dvK : dvz K (p e) := ⟨G, fun x => by rw [ev x]; grind⟩
  have co : ∀ j, j < n → j ≠ e → cop (p j) G ∧ cop (p j) K := fun j hj jn => ⟨cop_dv (hF.2.1 j e hj he jn) dvG, cop_dv (hF.2.1 j e hj he jn) dvK⟩
  refine ⟨ev, fun j hj => ?_, fun j j' hj hj' ne => ?_, fun j i hj hi => ?_⟩
  · dsimp only
    by_cases c1 : j = n
    · rw [if_pos c1, c1]
      obtain ⟨i, i1, i2⟩ := pe.2.2.2.2
      exact ⟨g1, pat_l pe.2.1 ev, sqf_l pe.2.2.1 ev, lG, i, i1, by rw [if_pos rfl]; exact i2⟩
    · rw [if_neg c1]
      by_cases c2 : j = e
      · rw [if_pos c2, c2]
        obtain ⟨i, i1, i2⟩ := pe.2.2.2.2
        exact ⟨k1, pat_r pe.2.1 ev, sqf_r pe.2.2.1 ev, lps_r pe.2.2.2.1 lG ev, i, i1, by rw [if_neg (by omega)]; exact i2⟩
      · rw [if_neg c2]
        obtain ⟨i, i1, i2⟩ := (hF.1 j (by omega)).2.2.2.2
        exact ⟨kp j (by omega) c2 _ (hF.1 j (by omega)).1, (hF.1 j (by omega)).2.1, (hF.1 j (by omega)).2.2.1, (hF.1 j (by omega)).2.2.2.1, i, i1, by rw [if_neg c1]; exact i2⟩
  · dsimp only
    by_cases c1 : j = n
    · rw [if_pos c1]
      have d1 : j' ≠ n := by omega
      rw [if_neg d1]
      by_cases c2 : j' = e
      · rw [if_pos c2]; exact cKG
      · rw [if_neg c2]; exact cop_sym (co j' (by omega) c2).1
    · rw [if_neg c1]
      by_cases d1 : j' = n
      · rw [if_pos d1]
        by_cases c2 : j = e
        · rw [if_pos c2]; exact cop_sym cKG
        · rw [if_neg c2]; exact (co j (by omega) c2).1
      · rw [if_neg d1]
        by_cases c2 : j = e
        · rw [if_pos c2]
          rw [if_neg (show ¬ j' = e by omega)]
          exact cop_sym (co j' (by omega) (by omega)).2
        · rw [if_neg c2]
          by_cases d2 : j' = e
          · rw [if_pos d2]; exact (co j (by omega) c2).2
          · rw [if_neg d2]; exact hF.2.1 j j' (by omega) (by omega) ne
  · dsimp only
    by_cases c1 : j = n
    · rw [if_pos c1, c1, rk i hi]; exact hF.2.2 e i he hi
    · rw [if_neg c1, rj _ (by omega)]; exact hF.2.2 j i (by omega) hi
theorem foldRest_v {s : im_S} {n m a : Nat} {D : Int} {p : Nat → List Int} {M : Nat → Nat → Nat} {R : List Int} {Q : im_S → Prop} (ha : a < 10) (hB : BI s n D) (hF : BF s n p M m) (hm : m + 80 ≤ 1000000) (hR : ply s 265 R) (pR : pat R) (sR : sqf R ∧ lps R) (hs : dsp s n + s.1 265 0 ≤ D) (hD : D ≤ 80) (ne : s.1 247 3 ≠ s.1 247 4) (hQ : ∀ s' n' p' M', BI s' n' D → BF s' n' p' M' (m + 81) → flf s s' → s'.1 247 3 ≠ s'.1 247 4 → rlM a p M n R p' M' n' [1] → Q s') : C_foldRest0v (a : Int) s Q := by
  have n80s := hB.2.1
  refine ⟨fun q => ∃ e : Nat, q.1 = (e : Int) ∧ e ≤ n ∧ FI s n m D a p M R e q.2, ⟨0, rfl, by omega, n, p, M, R, Nat.le_refl _, hB, hF, hR, pR, sR, hs, gfr_refl _ _ _, ne, fun j hj h => by omega, fun _ _ _ _ => rfl, 1, 1, by decide, by decide, fun x => rfl⟩, ?_⟩
  rintro ⟨x, s1⟩ ⟨e, ex, en, n1, p1, M1, R1, nn1, B1, F1, r1, pR1, sR1, hs1, fl1, ne1, cp1, rl1⟩
  dsimp only at ex B1 F1 r1 hs1 fl1 ne1 ⊢
  subst ex
  rw [show cgf s 84 2 = (n : Int) from hB.1]
  have n80 := B1.2.1
  have fin : (1 ≤ s1.1 265 0 → e = n) → C_foldRest0v_151 (a : Int) s1 Q := fun hen => fold_151 ha B1 F1 r1 pR1 sR1 hs1 hD fl1 ne1 (fun h j hj => cp1 j hj (by have := hen h; omega)) rl1 (fun s' n' p' M' b1 b2 b3 b4 b5 => hQ s' n' p' M' b1 (BF_m b2 (by omega)) b3 b4 b5)
  refine ⟨fun c => fin (fun _ => by omega), fun c => ⟨fun c0 => fin (fun h => by have c0 : s1.1 265 0 ≤ 0 := c0; omega), fun cr => ?_⟩⟩
  rw [Int.toNat_natCast]
  have en1 : e < n1 := by omega
  have e80 : e < 80 := by omega
  obtain ⟨q1, q2, q3⟩ := F1.1 e en1
  obtain ⟨G, Fc, Hc, nG, pG, eF, eH, hc⟩ := zgcd (nzp_d (pat_0 q2)) (nzp_d (pat_0 pR1))
  obtain ⟨hL, hb⟩ := fp_pat q2 pR1 eF eH hc
  refine find_v B1.2.2.2.2 ne1 q1 r1 (opc_e e80) opc_265 (pat_58 q2) (pat_58 pR1) (pat_0 q2) (pat_0 pR1) (fun t ht => lead_pat q1.2 q2 ht) (fun t ht => lead_pat r1.2 pR1 ht) nG pG eF eH hc hL hb (fun s2 Dv K1 K2 g2 w2 _ gn2 eD1 eD2 cK dv1 dv2 lD d2 ne2 f2 => ?_)
  clear hL hb eF eH hc pG nG
  have fl2 : flf s s2 := gfr_trans fl1 (fd_fl f2)
  have B2 : BI s2 n1 D := fd_BI B1 f2 d2
  have F2 := fd_BF F1 f2 n80
  have r2 : ply s2 265 R1 := fd_ply opc_265 r1 f2
  have hs2 := fd_ds hs1 f2 n80
  have nx : ∀ s', FI s n m D a p M R (e + 1) s' → (fun q : Int × im_S => ∃ e : Nat, q.1 = (e : Int) ∧ e ≤ n ∧ FI s n m D a p M R e q.2) (w32 ((e : Int) + 1), s') := fun s' h => ⟨e + 1, w32s (by omega), by omega, h⟩
  refine ⟨fun cg => ?_, fun cg => ?_⟩
  · -- nothing shared
    obtain ⟨c0, cc⟩ := const_of g2.2 cg gn2
    have cPR : cop (p1 e) R1 := cop_l c0 (cop_k c0 cK (fun x => by rw [eD2 x, cc x])) (fun x => by rw [eD1 x, cc x])
    refine nx s2 ⟨n1, p1, M1, R1, nn1, B2, BF_m F2 (by omega), r2, pR1, sR1, hs2, fl2, ne2, fun j hj h => ?_, rl1⟩
    by_cases w : j = e
    · rw [w]; exact cPR
    · exact cp1 j hj (by omega)
  refine copy6_b g2 (by decide) (fun s3 g3 f3 => ?_)
  have fl3 : flf s s3 := gfr_trans fl2 (py_fl f3)
  have B3 := py_BI B2 f3
  have F3 := py_BF F2 f3 n80
  have r3 : ply s3 265 R1 := ply_fr r2 f3 (by omega) (by omega)
  have hs3 := py_ds hs2 f3 n80
  have ne3 : s3.1 247 3 ≠ s3.1 247 4 := by rw [f3.1 _ _ (by omega), f3.1 _ _ (by omega)]; exact ne2
  have gd : 1 ≤ s3.1 263 0 := by
    have a := dgo_u g3.2 g2.2
    have : ¬ s2.1 255 0 ≤ 0 := cg
    omega
  have cGK : ∀ K : List Int, (∀ x : Rat, pev R1 x = pev Dv x * pev K x) → cop Dv K ∧ cop K1 K := fun K hK => by
    have ek : ∀ x : Rat, pev K x = pev K2 x := can_eq gn2 (fun x => by rw [← hK x, ← eD2 x])
    refine ⟨cop_sq sR1.1 hK, ?_⟩
    obtain ⟨c, u, v, c0, h⟩ := cK
    exact ⟨c, u, v, c0, fun x => by rw [ek x]; exact h x⟩
  have oth : ∀ K : List Int, (∀ x : Rat, pev R1 x = pev Dv x * pev K x) → ∀ j, j < n1 → (j < e ∨ n ≤ j) → cop (p1 j) K := fun K hK j hj h => cop_dv (cp1 j hj h) ⟨Dv, fun x => by rw [hK x]; grind⟩
  refine ⟨fun cd => ?_, fun cd => ?_⟩
  · -- the whole piece
    have q13 : ply s3 (86 + 2 * e) (p1 e) := (F3.1 e en1).1
    have cd' : s3.1 (86 + 2 * e) 0 ≤ s3.1 263 0 := cd
    obtain ⟨dK, hdK⟩ : ∃ dK : Int, dgo dK K1 := by
      obtain ⟨_, nK⟩ := ne_of_mul eD1 (pat_0 q2)
      obtain ⟨k, k1, k2⟩ := top_ex nK
      have := ply_9 q1
      obtain ⟨g, g1, g2'⟩ := top_ex (P := Dv) gn2
      have tt := top_pr eD1 (N := 8) (pdb_mono this (by omega)) g1 g2' k1 k2
      exact ⟨(k : Int), by omega, by omega, fun j hj => k1 j (by omega), fun _ => by rw [Int.toNat_natCast]; exact k2⟩
    have dm := dgo_mul q13.2 g3.2 hdK eD1 (pat_0 q2)
    obtain ⟨_, nK⟩ := ne_of_mul eD1 (pat_0 q2)
    obtain ⟨k0, kk⟩ := const_of hdK (by omega) nK
    refine fold_99v (k := pgt K1 0) ha nn1 B3 F3 (by omega) r3 pR1 sR1 hs3 fl3 ne3 g3 w2 gn2 lD dv2 en1 k0 (fun x => by rw [eD1 x, kk x]; grind) (fun K hK j hj h => ?_) rl1 nx
    by_cases w : j = e
    · rw [w]
      exact cop_l k0 (cGK K hK).1 (fun x => by rw [eD1 x, kk x]; grind)
    · exact oth K hK j hj (by omega)
  · -- a part of it
    have cd' : s3.1 263 0 < s3.1 (86 + 2 * e) 0 := by have : ¬ s3.1 (86 + 2 * e) 0 ≤ s3.1 263 0 := cd; omega
    have q13 : ply s3 (86 + 2 * e) (p1 e) := (F3.1 e en1).1
    refine splitOff_v B3 g3 (by unfold opc; omega) (by omega) w2 en1 gd cd' hD (fun s4 P K hP _ e4 B4 k4 g4 f4 kp4 rj4 rk4 => ?_) (fun s4 P hP nd f4 => ?_)
    · obtain ⟨ev, F4⟩ := split_BF F3 en1 hP e4 lD k4 g4 kp4 rj4 rk4
      have fl4 : flf s s4 := gfr_trans fl3 (sp_fl f4)
      have r4 : ply s4 265 R1 := ply_fr r3 f4 (by omega) (by omega)
      have g4' : ply s4 263 Dv := ply_fr g3 f4 (by omega) (by omega)
      have ne4 : s4.1 247 3 ≠ s4.1 247 4 := by rw [f4.1 _ _ (by omega), f4.1 _ _ (by omega)]; exact ne3
      have hs4 : dsp s4 (n1 + 1) + s4.1 265 0 ≤ D := by
        have d4 : s4.1 265 0 = s3.1 265 0 := f4.1 _ _ (by omega)
        have dd := dgo_mul q13.2 g3.2 k4.2 ev (pat_0 q2)
        have gn4 : s4.1 (86 + 2 * n1) 0 = s3.1 263 0 := dgo_u g4.2 g3.2
        show dsp s4 n1 + s4.1 (86 + 2 * n1) 0 + s4.1 265 0 ≤ D
        rw [dsp_one (s := s3) (e0 := e) en1 (fun e' h1 h2 => dgo_u (kp4 e' h1 h2 _ (F3.1 e' h1).1).2 (F3.1 e' h1).1.2), d4, gn4]
        omega
      have eK1 : ∀ x : Rat, pev K x = pev K1 x := can_eq gn2 (fun x => by rw [← ev x, ← eD1 x])
      refine fold_99v (j0 := n1) (k := 1) ha (by omega) B4 F4 (by omega) r4 pR1 sR1 hs4 fl4 ne4 g4' w2 gn2 lD dv2 (by omega) (by decide) (fun x => by rw [if_pos rfl, rat_i1]; grind) (fun K' hK' j hj h => ?_) ?_ nx
      · show cop (if j = n1 then Dv else if j = e then K else p1 j) K'
        by_cases w : j = n1
        · rw [if_pos w]; exact (cGK K' hK').1
        · rw [if_neg w]
          by_cases w2 : j = e
          · rw [if_pos w2]
            obtain ⟨c, u, v, c0, hh⟩ := (cGK K' hK').2
            exact ⟨c, u, v, c0, fun x => by rw [eK1 x]; exact hh x⟩
          · rw [if_neg w2]; exact oth K' hK' j (by omega) (by omega)
      · obtain ⟨rr1, c, d, c0, d0, rr2⟩ := rl1
        have sp : ∀ (i : Nat) (x : Rat), PRd (fun j => if j = n1 then Dv else if j = e then K else p1 j) (fun j => if j = n1 then M1 e i else M1 j i) x (n1 + 1) = PRd p1 (fun j => M1 j i) x n1 := fun i x => PRd_split (e0 := e) en1 (by rw [if_pos rfl, if_neg (by omega), if_pos rfl]; exact ev x) (by rw [if_neg (by omega)]) (by rw [if_pos rfl]) (fun j h1 h2 => ⟨by rw [if_neg (by omega), if_neg h2], by rw [if_neg (by omega)]⟩)
        exact ⟨fun i hi ia x => by rw [sp i x]; exact rr1 i hi ia x, c, d, c0, d0, fun x => by rw [sp a x]; exact rr2 x⟩
    · exfalso
      refine nd ?_
      obtain ⟨Kx, hx, hw⟩ := dv1
      refine ⟨Kx, fun x => ?_, hw⟩
      rw [← hx x]
      exact pev_eq (fun k => by
        by_cases k9 : k < 9
        · rw [← hP.1 k k9, ← q13.1 k k9]
        · rw [ply_9 hP k (by omega), ply_9 q13 k (by omega)]) x
