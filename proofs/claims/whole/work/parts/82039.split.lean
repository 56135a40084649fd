/-! splitOff, with how often the pieces count -/
theorem splitOff_v {e n g : Nat} {s : im_S} {G : List Int} {D : Int} {Q : Int → im_S → Prop} (hB : BI s n D) (hG : ply s g G) (og : opc g) (og2 : g < 80 ∨ 246 < g) (wG : w63 G) (he : e < n) (gd1 : 1 ≤ s.1 g 0) (gd2 : s.1 g 0 < s.1 (86 + 2 * e) 0) (hD : D ≤ 80) (hQ1 : ∀ s' P K, ply s (86 + 2 * e) P → dvs P G → (∀ x : Rat, pev P x = pev G x * pev K x) → BI s' (n + 1) D → ply s' (86 + 2 * e) K → ply s' (86 + 2 * n) G → spf s s' → (∀ e', e' < n → e' ≠ e → ∀ P, ply s (86 + 2 * e') P → ply s' (86 + 2 * e') P) → (∀ j, j < 10 * n → s'.2 246 j = s.2 246 j) → (∀ k, k < 10 → s'.2 246 (10 * n + k) = s.2 246 (10 * e + k)) → Q (n : Int) s') (hQ0 : ∀ s' P, ply s (86 + 2 * e) P → ¬ dvs P G → dvf s s' → Q (e : Int) s') : C_splitOff0 (e : Int) g s Q := by
  obtain ⟨b1, b2, b3, b4, b5⟩ := hB
  unfold opc at og
  obtain ⟨P, p1, p2, p3⟩ := b3 e he
  have n79 : n < 80 := by
    have := dsp_ge1 (s := s) (n := n) (e0 := e) he (fun e he => by obtain ⟨_, _, _, h⟩ := b3 e he; exact h)
    omega
  refine ⟨fun c => by omega, fun _ => ⟨fun c => ?_, fun _ => ⟨fun c => ?_, fun _ => ?_⟩⟩⟩
  · rw [show cgf s 84 2 = (n : Int) from b1] at c; omega
  · rw [show cgf s 84 2 = (n : Int) from b1] at c; omega
  · rw [Int.toNat_natCast]
    refine divide_b p1 hG (by omega) (by omega) (by omega) (by omega) (pat_58 p2) wG (fun dv gn s1 K k1 e1 f1 => ⟨fun _ => ?_, fun c => by omega⟩) (fun dv s1 f1 => ⟨fun c => absurd rfl c, fun _ => ?_⟩)
    · refine copy6_b k1 (by omega) (fun s2 h2 f2 => ?_)
      have g1 : spf s s1 := gfr_mono f1 (fun c k e => by omega) (fun c e => by omega)
      have g2 : spf s s2 := gfr_trans g1 (gfr_mono f2 (fun c k e => by omega) (fun c e => by omega))
      have n2 : s2.1 84 2 = (n : Int) := by rw [f2.1 _ _ (by omega), f1.1 _ _ (by omega)]; exact b1
      rw [show cgf s2 84 2 = (n : Int) from n2, Int.toNat_natCast]
      have hG2 : ply s2 g G := ply_fr (ply_fr hG f1 (by omega) (by omega)) f2 (by omega) (by omega)
      refine copy6_b hG2 (by omega) (fun s3 h3 f3 => ?_)
      have g3 : spf s s3 := gfr_trans g2 (gfr_mono f3 (fun c k e => by omega) (fun c e => by omega))
      have n3 : s3.1 84 2 = (n : Int) := by rw [f3.1 _ _ (by omega)]; exact n2
      have k3 : ply s3 (86 + 2 * e) K := ply_fr h2 f3 (by omega) (by omega)
      have keep : ∀ e', e' < n → e' ≠ e → ∀ P, ply s (86 + 2 * e') P → ply s3 (86 + 2 * e') P := fun e' h1 h2 P hP => ply_fr (ply_fr (ply_fr hP f1 (by omega) (by omega)) f2 (by omega) (by omega)) f3 (by omega) (by omega)
      have kd : ∀ e', e' < n → e' ≠ e → s3.1 (86 + 2 * e') 0 = s.1 (86 + 2 * e') 0 := fun e' h1 h2 => by rw [f3.1 _ _ (by omega), f2.1 _ _ (by omega), f1.1 _ _ (by omega)]
      have dd := dgo_mul p1.2 hG.2 k3.2 e1 (pat_0 p2)
      have gd : s3.1 (86 + 2 * n) 0 = s.1 g 0 := dgo_u h3.2 hG.2
      have r3 : s3.2 246 = s.2 246 := by rw [f3.2 _ (by omega), f2.2 _ (by omega), f1.2 _ (by omega)]
      refine ⟨fun a => spf s a.2 ∧ a.2.1 = s3.1 ∧ (∀ c, c ≠ 246 → a.2.2 c = s3.2 c) ∧ ∃ i : Nat, a.1 = (i : Int) ∧ i ≤ 10 ∧ (∀ j, j < 10 * n → a.2.2 246 j = s.2 246 j) ∧ ∀ k, k < i → a.2.2 246 (10 * n + k) = s.2 246 (10 * e + k), ⟨g3, rfl, fun _ _ => rfl, 0, rfl, by omega, fun j hj => by dsimp only; rw [r3], fun k hk => by omega⟩, ?_⟩
      rintro ⟨i9, s4⟩ ⟨g4, ef, er, i, ei, i10, rj, rk⟩
      dsimp only at g4 ef er ei rj rk ⊢
      subst ei
      refine ⟨fun ci s5 e5 => ?_, fun ci _ _ s5 e5 => ?_⟩
      · subst e5
        rw [show cgf s4 84 2 = (n : Int) by show s4.1 84 2 = _; rw [ef]; exact n3]
        have en : w32 ((n : Int) + 1) = ((n + 1 : Nat) : Int) := w32s (by omega)
        rw [en]
        have e6 : w32 (cgf (cpf s4 84 2 ((n + 1 : Nat) : Int)) 84 2 - 1) = (n : Int) := by
          rw [show cgf (cpf s4 84 2 ((n + 1 : Nat) : Int)) 84 2 = ((n + 1 : Nat) : Int) from cpf_same _ _ _ _, w32_id (by omega) (by omega)]; omega
        rw [e6]
        have fld : ∀ c k, ¬ (c = 84 ∧ k = 2) → (cpf s4 84 2 ((n + 1 : Nat) : Int)).1 c k = s3.1 c k := fun c k h => by rw [cpf_ne h, ef]
        have cv : ∀ (c : Nat) (P : List Int), c ≠ 84 → c + 1 ≠ 246 → ply s3 c P → ply (cpf s4 84 2 ((n + 1 : Nat) : Int)) c P := fun c P h1 h2 h => ply_co h (by show s4.2 (c + 1) = _; exact er _ h2) (fld c 0 (by omega))
        have pk : pat K := pat_r p2 e1
        have pg : pat G := pat_l p2 e1
        refine hQ1 _ P K p1 dv e1 ⟨cpf_same _ _ _ _, by omega, fun e' he' => ?_, ?_, ?_⟩ (cv _ _ (by omega) (by omega) k3) (cv _ _ (by omega) (by omega) h3) (gfr_pf g4 (by omega)) (fun e' h1 h2 P hP => cv _ _ (by omega) (by omega) (keep e' h1 h2 P hP)) rj (fun k hk => rk k (by omega))
        · by_cases c1 : e' = n
          · subst c1
            exact ⟨G, cv _ _ (by omega) (by omega) h3, pg, by rw [fld _ _ (by omega), gd]; exact gd1⟩
          · by_cases c2 : e' = e
            · subst c2
              exact ⟨K, cv _ _ (by omega) (by omega) k3, pk, by rw [fld _ _ (by omega)]; omega⟩
            · obtain ⟨P', q1, q2, q3⟩ := b3 e' (by omega)
              exact ⟨P', cv _ _ (by omega) (by omega) (keep e' (by omega) c2 P' q1), q2, by rw [fld _ _ (by omega), kd e' (by omega) c2]; exact q3⟩
        · show dsp _ n + _ ≤ D
          rw [dsp_one (s := s) (e0 := e) he (fun e' h1 h2 => by rw [fld _ _ (by omega)]; exact kd e' h1 h2), fld _ _ (by omega), fld _ _ (by omega), gd]
          omega
        · unfold dI
          rw [fld _ _ (by omega), fld _ _ (by omega), f3.1 _ _ (by omega), f3.1 _ _ (by omega), f2.1 _ _ (by omega), f2.1 _ _ (by omega), f1.1 _ _ (by omega), f1.1 _ _ (by omega)]
          exact b5
      · subst e5
        have nn : cgf s4 84 2 = (n : Int) := by show s4.1 84 2 = _; rw [ef]; exact n3
        have ix : w32 (w32 (cgf s4 84 2 * 10) + (i : Int)) = ((10 * n + i : Nat) : Int) := by
          rw [nn, w32_id (x := (n : Int) * 10) (by omega) (by omega), w32_id (by omega) (by omega)]; omega
        have iy : w32 (w32 ((e : Int) * 10) + (i : Int)) = ((10 * e + i : Nat) : Int) := by
          rw [w32_id (x := (e : Int) * 10) (by omega) (by omega), w32_id (by omega) (by omega)]; omega
        rw [ix, iy]
        have ve : cga s4 246 ((10 * e + i : Nat) : Int) = s.2 246 (10 * e + i) := by
          show s4.2 246 _ = _
          rw [Int.toNat_natCast]
          exact rj _ (by omega)
        rw [ve]
        refine ⟨gfr_pa g4 (by omega), ef, fun c hc => by rw [cpa_ne hc]; exact er c hc, i + 1, w32s (by omega), by omega, fun j hj => ?_, fun k hk => ?_⟩
        · rw [cpa_at9, Int.toNat_natCast, if_neg (by omega)]; exact rj j hj
        · rw [cpa_at9, Int.toNat_natCast]
          by_cases q : k = i
          · rw [q, if_pos rfl]
          · rw [if_neg (by omega)]; exact rk k (by omega)
    · refine hQ0 s1 P p1 ?_ f1
      rcases dv with q | q
      · exact q
      · exfalso
        have := hG.2.2.2.2 (by omega)
        exact this (q _)
