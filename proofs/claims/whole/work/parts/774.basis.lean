/-! THE BASIS: pieces that divide an atom -/
theorem setSlope_b2 {a b : Nat} {s : im_S} {F : List Int} {Q : im_S → Prop} (hb : ply s b F) (hab : b ≠ a) (bF : pab F 15482880000000000) (hQ : ∀ s' G, ply s' a G → b58 G → pyf a s s' → Q s') : C_setSlopeOf6 a b s Q := by
  refine ⟨fun q => ∃ i : Nat, q.1 = (i : Int) ∧ i ≤ 8 ∧ pyf a s q.2 ∧ ∀ k, k < i → ((q.2.2 (a + 1) k).natAbs : Int) ≤ 288230376151711744, ⟨0, rfl, by omega, pyf_refl _ _, fun k hk => by omega⟩, ?_⟩
  rintro ⟨x, s1⟩ ⟨i, ei, i8, f, hr⟩
  dsimp only at ei f hr ⊢
  subst ei
  have hb1 := ply_fr hb f (fun z => hab z.1) (by omega)
  refine ⟨fun c _ s2 e2 => ?_, fun c _ _ s2 e2 => ?_⟩
  · have r2 : ∀ k, k < 9 → ((s2.2 (a + 1) k).natAbs : Int) ≤ 288230376151711744 := fun k hk => by
      subst e2
      rw [cpa_row]
      by_cases ck : k = 8
      · rw [if_pos (by rw [ck]; rfl)]; decide
      · rw [if_neg (by intro z; exact ck z)]; exact hr k (by omega)
    refine measure_b (F := pmk 9 (s2.2 (a + 1))) (fun i hi => by rw [pmk_gt, if_pos hi]) (by have := pdb_len (pmk 9 (s2.2 (a + 1))); rw [pmk_len] at this; exact this) (fun s3 h3 f3 _ => hQ _ _ h3 (fun k => ?_) (pyf_trans (by subst e2; exact gfr_pa f rfl) f3))
    rw [pmk_gt]
    by_cases ck : k < 9
    · rw [if_pos ck]; exact r2 k ck
    · rw [if_neg ck]; decide
  · subst e2
    refine ⟨i + 1, w32s (by omega), by omega, gfr_pa f rfl, fun k hk => ?_⟩
    dsimp only
    rw [cpa_row, Int.toNat_natCast]
    by_cases ck : k = i
    · rw [if_pos ck]
      have e1 : w32 ((i : Int) + 1) = ((i + 1 : Nat) : Int) := w32s (by omega)
      have e2 : cga s1 (b + 1) (w32 ((i : Int) + 1)) = pgt F (i + 1) := by
        rw [e1]
        show s1.2 (b + 1) ((i + 1 : Nat) : Int).toNat = _
        rw [Int.toNat_natCast]
        exact hb1.1 (i + 1) (by omega)
      rw [e2, e1]
      have bb := bF (i + 1)
      have m : (pgt F (i + 1) * ((i + 1 : Nat) : Int)).natAbs ≤ 15482880000000000 * 8 := by
        rw [Int.natAbs_mul]
        exact Nat.mul_le_mul bb (by omega)
      rw [w64_id (by omega) (by omega)]
      omega
    · rw [if_neg ck]; exact hr k (by omega)
/-- P divides an atom -/
def pat (P : List Int) : Prop := ∃ A Q : List Int, (∀ x : Rat, pev A x = pev P x * pev Q x) ∧ pdb A 9 ∧ (∃ k, pgt A k ≠ 0) ∧ pab A 1000000000
theorem pat_b {P : List Int} (h : pat P) : pab P 15482880000000000 := by
  obtain ⟨A, Q, e, a9, a0, ab⟩ := h
  exact fb_all e a9 a0 ab
theorem pat_58 {P : List Int} (h : pat P) : b58 P := fun k => by have := pat_b h k; omega
theorem pat_63 {P : List Int} (h : pat P) : w63 P := fun k => by have := pat_b h k; omega
theorem ev_0 {P : List Int} (h : ∀ k, pgt P k = 0) (x : Rat) : pev P x = 0 := by
  rw [pev_eq (P := P) (R := []) h x]; rfl
theorem ne_of_mul {A P Q : List Int} (e : ∀ x : Rat, pev A x = pev P x * pev Q x) (h : ∃ k, pgt A k ≠ 0) : (∃ k, pgt P k ≠ 0) ∧ ∃ k, pgt Q k ≠ 0 := by
  obtain ⟨k, hk⟩ := h
  constructor
  · refine Classical.byContradiction fun c => hk (pev_zero (fun x => ?_) k)
    rw [e x, ev_0 (fun k => Classical.byContradiction fun z => c ⟨k, z⟩) x]; grind
  · refine Classical.byContradiction fun c => hk (pev_zero (fun x => ?_) k)
    rw [e x, ev_0 (P := Q) (fun k => Classical.byContradiction fun z => c ⟨k, z⟩) x]; grind
theorem pat_0 {P : List Int} (h : pat P) : ∃ k, pgt P k ≠ 0 := by
  obtain ⟨A, Q, e, a9, a0, ab⟩ := h
  exact (ne_of_mul e a0).1
theorem pat_l {P D K : List Int} (h : pat P) (e : ∀ x : Rat, pev P x = pev D x * pev K x) : pat D := by
  obtain ⟨A, Q, e2, a9, a0, ab⟩ := h
  exact ⟨A, pmul K Q, fun x => by rw [e2 x, e x, pmul_ev]; grind, a9, a0, ab⟩
theorem pat_r {P D K : List Int} (h : pat P) (e : ∀ x : Rat, pev P x = pev D x * pev K x) : pat K := pat_l h (D := K) (K := D) (fun x => by rw [e x]; grind)
theorem pat_co {P R : List Int} (h : pat P) (e : ∀ k, pgt P k = pgt R k) : pat R := by
  obtain ⟨A, Q, e2, a9, a0, ab⟩ := h
  exact ⟨A, Q, fun x => by rw [e2 x, pev_eq e x], a9, a0, ab⟩
theorem dgo_0 {d : Int} {P : List Int} (h : dgo d P) (h0 : ∃ k, pgt P k ≠ 0) : 0 ≤ d := by
  obtain ⟨k, hk⟩ := h0
  refine Int.le_of_not_gt fun c => hk (h.2.2.1 k ?_)
  omega
theorem dgo_mul {dP dG dK : Int} {P G K : List Int} (hP : dgo dP P) (hG : dgo dG G) (hK : dgo dK K) (e : ∀ x : Rat, pev P x = pev G x * pev K x) (h0 : ∃ k, pgt P k ≠ 0) : dP = dG + dK := by
  have n := ne_of_mul e h0
  have g0 := dgo_0 hG n.1
  have k0 := dgo_0 hK n.2
  have p0 := dgo_0 hP h0
  have tG : pdb G (dG.toNat + 1) := by have := hG.2.2.1; rw [show (dG + 1).toNat = dG.toNat + 1 by omega] at this; exact this
  have tK : pdb K (dK.toNat + 1) := by have := hK.2.2.1; rw [show (dK + 1).toNat = dK.toNat + 1 by omega] at this; exact this
  have t := top_co tG tK e
  have nz : pgt P (dG.toNat + dK.toNat) ≠ 0 := by rw [t]; exact Int.mul_ne_zero (hG.2.2.2 g0) (hK.2.2.2 k0)
  have up : pdb P (dG.toNat + dK.toNat + 1) := fun k hk => by
    have m := pdb_mul tG tK
    rw [← pev_inj (P := pmul G K) (Q := P) (fun x => by rw [pmul_ev, e x])]
    exact m k (by omega)
  have u := dgo_u hP (d' := ((dG.toNat + dK.toNat : Nat) : Int)) ⟨by omega, ?_, by rw [show (((dG.toNat + dK.toNat : Nat) : Int) + 1).toNat = dG.toNat + dK.toNat + 1 by omega]; exact up, fun _ => by rw [Int.toNat_natCast]; exact nz⟩
  · omega
  · have := hP.2.1
    refine Int.le_of_not_gt fun c => nz (hP.2.2.1 _ ?_)
    omega
/-- the sum of the degrees of the first n pieces -/
def dsp (s : im_S) : Nat → Int
  | 0 => 0
  | n + 1 => dsp s n + s.1 (86 + 2 * n) 0
theorem dsp_co {s s' : im_S} : ∀ {n : Nat}, (∀ e, e < n → s'.1 (86 + 2 * e) 0 = s.1 (86 + 2 * e) 0) → dsp s' n = dsp s n
  | 0, _ => rfl
  | n + 1, h => by
    show dsp s' n + _ = dsp s n + _
    rw [dsp_co (fun e he => h e (by omega)), h n (by omega)]
theorem dsp_one {s s' : im_S} {e0 : Nat} : ∀ {n : Nat}, e0 < n → (∀ e, e < n → e ≠ e0 → s'.1 (86 + 2 * e) 0 = s.1 (86 + 2 * e) 0) → dsp s' n = dsp s n + (s'.1 (86 + 2 * e0) 0 - s.1 (86 + 2 * e0) 0)
  | 0, h, _ => by omega
  | n + 1, h, hh => by
    show dsp s' n + _ = dsp s n + _ + _
    by_cases c : e0 = n
    · subst c
      rw [dsp_co (fun e he => hh e (by omega) (by omega))]; omega
    · rw [dsp_one (by omega) (fun e he => hh e (by omega)), hh n (by omega) (by omega)]; omega
theorem dsp_ge {s : im_S} : ∀ {n : Nat}, (∀ e, e < n → 1 ≤ s.1 (86 + 2 * e) 0) → (n : Int) ≤ dsp s n
  | 0, _ => by show ((0 : Nat) : Int) ≤ 0; omega
  | n + 1, h => by
    have := dsp_ge (s := s) (n := n) (fun e he => h e (by omega))
    have := h n (by omega)
    show _ ≤ dsp s n + _
    omega
theorem dsp_ge1 {s : im_S} {e0 : Nat} : ∀ {n : Nat}, e0 < n → (∀ e, e < n → 1 ≤ s.1 (86 + 2 * e) 0) → (n : Int) - 1 + s.1 (86 + 2 * e0) 0 ≤ dsp s n
  | 0, h, _ => by omega
  | n + 1, h, hh => by
    show _ ≤ dsp s n + _
    by_cases c : e0 = n
    · subst c
      have := dsp_ge (s := s) (n := e0) (fun e he => hh e (by omega))
      omega
    · have := dsp_ge1 (s := s) (n := n) (e0 := e0) (by omega) (fun e he => hh e (by omega))
      have := hh n (by omega)
      omega
/-- a piece -/
def pce (s : im_S) (e : Nat) : Prop := ∃ P, ply s (86 + 2 * e) P ∧ pat P ∧ 1 ≤ s.1 (86 + 2 * e) 0
def BI (s : im_S) (n : Nat) (D : Int) : Prop := s.1 84 2 = (n : Int) ∧ n ≤ 80 ∧ (∀ e, e < n → pce s e) ∧ dsp s n ≤ D ∧ dI s
theorem pce_co {F : Nat → Nat → Prop} {R : Nat → Prop} {s s' : im_S} {e : Nat} (h : pce s e) (f : gfr F R s s') (h1 : ¬ F (86 + 2 * e) 0) (h2 : ¬ R (86 + 2 * e + 1)) : pce s' e := by
  obtain ⟨P, p1, p2, p3⟩ := h
  exact ⟨P, ply_fr p1 f h1 h2, p2, by rw [f.1 _ _ h1]; exact p3⟩
theorem BI_co {F : Nat → Nat → Prop} {R : Nat → Prop} {s s' : im_S} {n : Nat} {D : Int} (h : BI s n D) (f : gfr F R s s') (h1 : ∀ e, e < 80 → ¬ F (86 + 2 * e) 0) (h2 : ∀ e, e < 80 → ¬ R (86 + 2 * e + 1)) (h3 : ¬ F 84 2) (h4 : dI s') : BI s' n D := by
  obtain ⟨a, b, c, d, _⟩ := h
  refine ⟨by rw [f.1 _ _ h3]; exact a, b, fun e he => pce_co (c e he) f (h1 e (by omega)) (h2 e (by omega)), ?_, h4⟩
  rw [dsp_co (fun e he => f.1 _ _ (h1 e (by omega)))]
  exact d
/-- what splitting changes -/
def spf (s s' : im_S) : Prop := gfr (fun c f => (c = 257 ∧ f = 0) ∨ (c = 84 ∧ f = 2) ∨ (86 ≤ c ∧ c < 246 ∧ f = 0)) (fun c => c = 250 ∨ c = 258 ∨ c = 246 ∨ (87 ≤ c ∧ c < 246)) s s'
theorem splitOff_b {e n g : Nat} {s : im_S} {G : List Int} {D : Int} {Q : Int → im_S → Prop} (hB : BI s n D) (hG : ply s g G) (og : opc g) (og2 : g < 80 ∨ 246 < g) (wG : w63 G) (he : e < n) (gd1 : 1 ≤ s.1 g 0) (gd2 : s.1 g 0 < s.1 (86 + 2 * e) 0) (hD : D ≤ 80) (hQ1 : ∀ s' P K, ply s (86 + 2 * e) P → dvs P G → (∀ x : Rat, pev P x = pev G x * pev K x) → BI s' (n + 1) D → ply s' (86 + 2 * e) K → ply s' (86 + 2 * n) G → spf s s' → (∀ e', e' < n → e' ≠ e → ∀ P, ply s (86 + 2 * e') P → ply s' (86 + 2 * e') P) → Q (n : Int) s') (hQ0 : ∀ s' P, ply s (86 + 2 * e) P → ¬ dvs P G → dvf s s' → Q (e : Int) s') : C_splitOff0 (e : Int) g s Q := by
  obtain ⟨b1, b2, b3, b4, b5⟩ := hB
  unfold opc at og
  obtain ⟨P, p1, p2, p3⟩ := b3 e he
  have n79 : n < 80 := by
    have := dsp_ge1 (s := s) (n := n) (e0 := e) he (fun e he => by obtain ⟨_, _, _, h⟩ := b3 e he; exact h)
    omega
  refine ⟨fun c => by omega, fun _ => ⟨fun c => ?_, fun _ => ⟨fun c => ?_, fun _ => ?_⟩⟩⟩
  · rw [show cgf s 84 2 = (n : Int) from b1] at c; omega
  · rw [show cgf s 84 2 = (n : Int) from b1] at c; omega
  · rw [Int.toNat_natCast]
    refine divide_b p1 hG (by omega) (by omega) (by omega) (by omega) (pat_58 p2) wG (fun dv gn s1 K k1 e1 f1 => ⟨fun _ => ?_, fun c => by omega⟩) (fun dv s1 f1 => ⟨fun c => absurd rfl c, fun _ => ?_⟩)
    · refine copy6_b k1 (by omega) (fun s2 h2 f2 => ?_)
      have g1 : spf s s1 := gfr_mono f1 (fun c k e => by omega) (fun c e => by omega)
      have g2 : spf s s2 := gfr_trans g1 (gfr_mono f2 (fun c k e => by omega) (fun c e => by omega))
      have n2 : s2.1 84 2 = (n : Int) := by rw [f2.1 _ _ (by omega), f1.1 _ _ (by omega)]; exact b1
      rw [show cgf s2 84 2 = (n : Int) from n2, Int.toNat_natCast]
      have hG2 : ply s2 g G := ply_fr (ply_fr hG f1 (by omega) (by omega)) f2 (by omega) (by omega)
      refine copy6_b hG2 (by omega) (fun s3 h3 f3 => ?_)
      have g3 : spf s s3 := gfr_trans g2 (gfr_mono f3 (fun c k e => by omega) (fun c e => by omega))
      have n3 : s3.1 84 2 = (n : Int) := by rw [f3.1 _ _ (by omega)]; exact n2
      have k3 : ply s3 (86 + 2 * e) K := ply_fr h2 f3 (by omega) (by omega)
      have keep : ∀ e', e' < n → e' ≠ e → ∀ P, ply s (86 + 2 * e') P → ply s3 (86 + 2 * e') P := fun e' h1 h2 P hP => ply_fr (ply_fr (ply_fr hP f1 (by omega) (by omega)) f2 (by omega) (by omega)) f3 (by omega) (by omega)
      have kd : ∀ e', e' < n → e' ≠ e → s3.1 (86 + 2 * e') 0 = s.1 (86 + 2 * e') 0 := fun e' h1 h2 => by rw [f3.1 _ _ (by omega), f2.1 _ _ (by omega), f1.1 _ _ (by omega)]
      have dd := dgo_mul p1.2 hG.2 k3.2 e1 (pat_0 p2)
      have gd : s3.1 (86 + 2 * n) 0 = s.1 g 0 := dgo_u h3.2 hG.2
      refine ⟨fun a => spf s a.2 ∧ a.2.1 = s3.1 ∧ ∀ c, c ≠ 246 → a.2.2 c = s3.2 c, ⟨g3, rfl, fun _ _ => rfl⟩, ?_⟩
      rintro ⟨i, s4⟩ ⟨g4, ef, er⟩
      dsimp only at g4 ef er ⊢
      refine ⟨fun _ s5 e5 => ?_, fun _ _ _ s5 e5 => ?_⟩
      · subst e5
        rw [show cgf s4 84 2 = (n : Int) by show s4.1 84 2 = _; rw [ef]; exact n3]
        have en : w32 ((n : Int) + 1) = ((n + 1 : Nat) : Int) := w32s (by omega)
        rw [en]
        have e6 : w32 (cgf (cpf s4 84 2 ((n + 1 : Nat) : Int)) 84 2 - 1) = (n : Int) := by
          rw [show cgf (cpf s4 84 2 ((n + 1 : Nat) : Int)) 84 2 = ((n + 1 : Nat) : Int) from cpf_same _ _ _ _, w32_id (by omega) (by omega)]; omega
        rw [e6]
        have fld : ∀ c k, ¬ (c = 84 ∧ k = 2) → (cpf s4 84 2 ((n + 1 : Nat) : Int)).1 c k = s3.1 c k := fun c k h => by rw [cpf_ne h, ef]
        have cv : ∀ (c : Nat) (P : List Int), c ≠ 84 → c + 1 ≠ 246 → ply s3 c P → ply (cpf s4 84 2 ((n + 1 : Nat) : Int)) c P := fun c P h1 h2 h => ply_co h (by show s4.2 (c + 1) = _; exact er _ h2) (fld c 0 (by omega))
        have pk : pat K := pat_r p2 e1
        have pg : pat G := pat_l p2 e1
        refine hQ1 _ P K p1 dv e1 ⟨cpf_same _ _ _ _, by omega, fun e' he' => ?_, ?_, ?_⟩ (cv _ _ (by omega) (by omega) k3) (cv _ _ (by omega) (by omega) h3) (gfr_pf g4 (by omega)) (fun e' h1 h2 P hP => cv _ _ (by omega) (by omega) (keep e' h1 h2 P hP))
        · by_cases c1 : e' = n
          · subst c1
            exact ⟨G, cv _ _ (by omega) (by omega) h3, pg, by rw [fld _ _ (by omega), gd]; exact gd1⟩
          · by_cases c2 : e' = e
            · subst c2
              exact ⟨K, cv _ _ (by omega) (by omega) k3, pk, by rw [fld _ _ (by omega)]; omega⟩
            · obtain ⟨P', q1, q2, q3⟩ := b3 e' (by omega)
              exact ⟨P', cv _ _ (by omega) (by omega) (keep e' (by omega) c2 P' q1), q2, by rw [fld _ _ (by omega), kd e' (by omega) c2]; exact q3⟩
        · show dsp _ n + _ ≤ D
          rw [dsp_one (s := s) (e0 := e) he (fun e' h1 h2 => by rw [fld _ _ (by omega)]; exact kd e' h1 h2), fld _ _ (by omega), fld _ _ (by omega), gd]
          omega
        · unfold dI
          rw [fld _ _ (by omega), fld _ _ (by omega), f3.1 _ _ (by omega), f3.1 _ _ (by omega), f2.1 _ _ (by omega), f2.1 _ _ (by omega), f1.1 _ _ (by omega), f1.1 _ _ (by omega)]
          exact b5
      · subst e5
        refine ⟨gfr_pa g4 (by omega), ef, fun c hc => ?_⟩
        rw [cpa_ne hc]; exact er c hc
    · refine hQ0 s1 P p1 ?_ f1
      rcases dv with q | q
      · exact q
      · exfalso
        have := hG.2.2.2.2 (by omega)
        exact this (q _)
