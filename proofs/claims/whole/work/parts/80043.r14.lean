theorem rw9_e {s : im_S} {c d : Nat} {p p' : po} (h : rw9 s c d p') (e : e9 p p') : rw9 s c d p := fun k hk => by rw [e k hk]; exact h k hk
theorem etf_lv {d : Nat} {s s' : im_S} (h : etf d s s') : lvf d s s' := ⟨gfr_mono h.1 (fun c f e => by omega) (fun c e => by omega), fun c k hk hc => by
  by_cases q : c = 589
  · subst q; exact h.2.1 k (by omega)
  · rw [h.1.2 _ (by omega)], fun c k hk hc => by
  by_cases q : c = 595
  · subst q; exact h.2.2 k (by omega)
  · rw [h.1.2 _ (by omega)]⟩
/-- a closing bracket -/
theorem endBracket_I {tx : Nat → Int} {n j : Nat} {R : ou po} {s0 s : im_S} {ls : List lev} {L : lev} {M : po} {Q : im_S → Prop} (hl : lvf 0 s0 s) (hc : rtx tx n s) (hd : ls.length + 1 ≤ 10) (h0 : s.1 582 2 = 0) (hj : s.1 582 4 = (j : Int)) (hs : skp tx n j j) (tk : j < n → tok (tx j)) (dp : s.1 582 21 = ((ls.length + 1 : Nat) : Int)) (hM : rw9 s 589 (ls.length + 1) M) (fM : fin9 M) (hS : stS s (L :: ls)) (hW : ctS tx n R (L :: ls) (.inr (j, M))) (hQ : ∀ s', SIv tx n R s0 (0, 0, s') → Q s') : C_endBracket10 (nxr tx n j) s Q := by
  have n400 := hc.2.1
  obtain ⟨A, F, S⟩ := hS
  rcases hW with ⟨n41, eR⟩ | ⟨e41, q, aq, hB⟩
  · refine ⟨fun z => absurd ((nxr_c (by decide) (by decide)).mp z) n41, fun _ => ?_⟩
    exact cannot_r hc ⟨h0, j, hj, hs⟩ (fun _ s1 b1 _ => hQ s1 (Or.inl ⟨_, b1, eR⟩)) (fun l t => absurd (tk l) t)
  · refine ⟨fun _ s1 e1 s2 e2 => ?_, fun z => absurd ((nxr_c (by decide) (by decide)).mpr e41) z⟩
    obtain ⟨rp, pw, hP⟩ := ctB_p aq hB
    have jl : j < n := nxc_lt (by rw [e41]; decide)
    rw [show cgf s 582 4 = (j : Int) from hj, w32s (by omega)] at e1
    rw [show cgf s1 582 21 = ((ls.length + 1 : Nat) : Int) by subst e1; show (cpf s 582 4 _).1 582 21 = _; rw [cpf_ne (by omega)]; exact dp, w32_id (by omega) (by omega)] at e2
    have f1 : pkf s s1 := by subst e1; exact pkf_pf (pkf_refl _) (by omega) (by omega)
    have g2 : s2.1 582 2 = 0 := by subst e2; subst e1; rw [cpf_ne (by omega), cpf_ne (by omega)]; exact h0
    have a2 : s2.1 582 4 = ((j + 1 : Nat) : Int) := by subst e2; subst e1; rw [cpf_ne (by omega)]; exact cpf_same _ _ _ _
    have d2 : s2.1 582 21 = (ls.length : Int) := by subst e2; rw [cpf_same]; omega
    have f2 : gfr (fun c f => c = 582 ∧ ((2 ≤ f ∧ f ≤ 4) ∨ f = 21)) (fun _ => False) s s2 := by subst e2; exact gfr_pf (gfr_mono f1 (fun c f e => by omega) (fun c e => e)) ⟨rfl, by omega⟩
    refine ⟨fun q => ∃ k : Nat, q.1 = (k : Int) ∧ k ≤ 9 ∧ gfr (fun _ _ => False) (fun c => c = 591) s2 q.2 ∧ (∀ i, i < 9 * ls.length → q.2.2 591 i = s2.2 591 i) ∧ ∀ i, i < k → q.2.2 591 (9 * ls.length + i) = M i, ⟨0, rfl, by omega, gfr_refl _ _ _, fun _ _ => rfl, fun i hi => by omega⟩, ?_⟩
    rintro ⟨x, s3⟩ ⟨k, ex, k9, f3, o3, z3⟩
    dsimp only at ex f3 o3 z3 ⊢
    subst ex
    have d3 : cgf s3 582 21 = (ls.length : Int) := by show s3.1 582 21 = _; rw [f3.1 _ _ (fun z => z)]; exact d2
    have f03 : gfr (fun c f => c = 582 ∧ ((2 ≤ f ∧ f ≤ 4) ∨ f = 21)) (fun c => c = 591) s s3 := gfr_trans (gfr_mono f2 (fun c f e => e) (fun c e => e.elim)) (gfr_mono f3 (fun c f e => e.elim) (fun c e => e))
    have v03 : lvf ls.length s s3 := ⟨gfr_mono f03 (fun c f e => e) (fun c e => by omega), fun c i hi hc => by
      by_cases q : c = 591
      · subst q; rw [o3 i hi, f2.2 _ (fun z => z)]
      · rw [f03.2 _ q], fun c i hi hc => by rw [f03.2 _ (by omega)]⟩
    unfold C_endBracket10_33
    rw [d3]
    refine ⟨fun c => ?_, fun c => ?_⟩
    · have A3 : lvA s3 ls.length L := by
        obtain ⟨a, b, c, g⟩ := A
        refine ⟨?_, by show s3.2 593 _ = _; rw [f03.2 _ (by omega)]; exact b, c, fun z => by show s3.2 594 _ = _; rw [f03.2 _ (by omega)]; exact g z⟩
        split
        · rename_i q; rw [q] at a; exact fun x hx => by rw [f03.2 _ (by omega)]; exact a x hx
        · rename_i q; rw [q] at a
          obtain ⟨c', x, y, w⟩ := a
          exact ⟨c', x, fun u hu => by rw [f03.2 _ (by omega)]; exact y u hu, w⟩
      have F3 : lvF s3 ls.length L := by
        unfold lvF at F ⊢
        split
        · rename_i q; rw [q] at F; show s3.2 595 _ = _; rw [f03.2 _ (by omega)]; exact F
        · rename_i q; rw [q] at F
          obtain ⟨x, y, p', u, v, w⟩ := F
          exact ⟨by show s3.2 595 _ = _; rw [f03.2 _ (by omega)]; exact x, y, p', u, fun k hk => by rw [f03.2 _ (by omega)]; exact v k hk, w⟩
      exact endBase_I (lvf_tr hl (lvf_0 v03) (Nat.le_refl _)) (rtx_lv hc v03) (by omega) (by rw [f3.1 _ _ (fun z => z)]; exact g2) (by rw [f3.1 _ _ (fun z => z)]; exact a2) d3 (fun i hi => z3 i (by omega)) fM pw hP A3 F3 (stS_lv v03 (Nat.le_refl _) S) hQ
    · have k8 : k < 9 := by omega
      rw [w32_id (x := (ls.length : Int) + 1) (by omega) (by omega), w32_id (x := 9 * ((ls.length : Int) + 1)) (by omega) (by omega), w32_id (x := 9 * ((ls.length : Int) + 1) + (k : Int)) (by omega) (by omega), w32_id (x := 9 * (ls.length : Int)) (by omega) (by omega), w32_id (x := 9 * (ls.length : Int) + (k : Int)) (by omega) (by omega)]
      intro _ _ s4 e4
      have y : cga s3 589 (9 * ((ls.length : Int) + 1) + (k : Int)) = M k := by
        show s3.2 589 (9 * ((ls.length : Int) + 1) + (k : Int)).toNat = _
        rw [show (9 * ((ls.length : Int) + 1) + (k : Int)).toNat = 9 * (ls.length + 1) + k by omega, f03.2 _ (by omega)]
        exact hM k k8
      rw [y] at e4
      subst e4
      refine ⟨k + 1, w32s (by omega), by omega, gfr_pa f3 rfl, fun i hi => ?_, fun i hi => ?_⟩
      · rw [cpa_at (m := 9 * ls.length + k) (by omega), if_neg (by omega)]; exact o3 i hi
      · rw [cpa_at (m := 9 * ls.length + k) (by omega)]
        by_cases ck : i = k
        · subst ck; rw [if_pos rfl]
        · rw [if_neg (by omega)]; exact z3 i (by omega)
