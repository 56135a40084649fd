/-! THE ATOMS AND THE PIECES: load up to the line -/
theorem pw_list (P : List Int) : ∀ k : Nat, ∃ L : List Int, ∀ x : Rat, pev L x = pev P x ^ k
  | 0 => ⟨[1], fun x => by rw [pev_c1, Rat.pow_zero]⟩
  | k + 1 => by
    obtain ⟨L, h⟩ := pw_list P k
    exact ⟨pmul L P, fun x => by rw [pmul_ev, h x, Rat.pow_succ]⟩
theorem PRd_list (p : Nat → List Int) (m : Nat → Nat) : ∀ n : Nat, ∃ L : List Int, ∀ x : Rat, pev L x = PRd p m x n
  | 0 => ⟨[1], fun x => by rw [pev_c1]; rfl⟩
  | n + 1 => by
    obtain ⟨L, h⟩ := PRd_list p m n
    obtain ⟨K, k⟩ := pw_list (p n) (m n)
    exact ⟨pmul L K, fun x => by rw [pmul_ev, h x, k x]; rfl⟩
theorem PRd_dv {p : Nat → List Int} {m : Nat → Nat} {e : Nat} (h : 1 ≤ m e) : ∀ {n : Nat}, e < n → ∃ K : List Int, ∀ x : Rat, PRd p m x n = pev (p e) x * pev K x
  | 0, he => absurd he (by omega)
  | n + 1, he => by
    by_cases c : e = n
    · subst c
      obtain ⟨L, hL⟩ := PRd_list p m e
      obtain ⟨K, k⟩ := pw_list (p e) (m e - 1)
      refine ⟨pmul L K, fun x => ?_⟩
      show PRd p m x e * pev (p e) x ^ m e = _
      rw [pmul_ev, hL x, k x, show m e = m e - 1 + 1 by omega, Rat.pow_succ, show m e - 1 + 1 - 1 = m e - 1 by omega]
      grind
    · obtain ⟨K, hK⟩ := PRd_dv h (n := n) (by omega)
      obtain ⟨L, l⟩ := pw_list (p n) (m n)
      refine ⟨pmul K L, fun x => ?_⟩
      show PRd p m x n * pev (p n) x ^ m n = _
      rw [pmul_ev, hK x, l x]
      grind
/-- each piece has a factor that is not 0 from 1 on -/
theorem BF_dg {s : im_S} {n mm e : Nat} {D : Int} {p : Nat → List Int} {M : Nat → Nat → Nat} (hB : BI s n D) (hF : BF s n p M mm) (he : e < n) : ∃ k, 1 ≤ k ∧ pgt (p e) k ≠ 0 := by
  obtain ⟨P, h1, _, h3⟩ := hB.2.2.1 e he
  have h4 := (hF.1 e he).1
  obtain ⟨d, hd⟩ : ∃ d : Nat, s.1 (86 + 2 * e) 0 = (d : Int) := ⟨(s.1 (86 + 2 * e) 0).toNat, by omega⟩
  have h5 := h4.2.2.2.2 (by omega)
  rw [hd, Int.toNat_natCast] at h5
  exact ⟨d, by omega, h5⟩
theorem M_zero {s : im_S} {n mm i : Nat} {D : Int} {p : Nat → List Int} {M : Nat → Nat → Nat} (hB : BI s n D) (hF : BF s n p M mm) (h : ∀ x : Rat, PRd p (fun e => M e i) x n = 1) (e : Nat) (he : e < n) : M e i = 0 := by
  by_cases c : 1 ≤ M e i
  · exfalso
    obtain ⟨K, hK⟩ := PRd_dv (p := p) (m := fun e => M e i) c he
    obtain ⟨k, k1, k2⟩ := BF_dg hB hF he
    refine k2 (dv_deg (A := p e) (K := K) (F := [1]) (n := 1) (fun x => by rw [pev_c1, ← hK x, h x]) ⟨0, by decide⟩ (fun j hj => ?_) k k1)
    match j, hj with
    | j + 1, _ => rfl
  · omega
/-- an atom's polynomial and the pieces -/
def atQ9 (P : List Int) (i : Nat) (p : Nat → List Int) (M : Nat → Nat → Nat) (n : Nat) : Prop := ((∀ k, pgt P k = 0) → ∀ e, e < n → M e i = 0) ∧ (nzp P → ∃ c d : Int, c ≠ 0 ∧ d ≠ 0 ∧ ∀ x : Rat, (c : Rat) * pev P x = (d : Rat) * PRd p (fun e => M e i) x n)
theorem M_keep {s' : im_S} {n n' mm i : Nat} {D : Int} {p p' : Nat → List Int} {M M' : Nat → Nat → Nat} (hB : BI s' n' D) (hF : BF s' n' p' M' mm) (h : ∀ x : Rat, PRd p' (fun e => M' e i) x n' = PRd p (fun e => M e i) x n) (h0 : ∀ e, e < n → M e i = 0) : ∀ e, e < n' → M' e i = 0 := M_zero hB hF (fun x => by rw [h x, PRd_1 h0])
theorem atQ9_co {s' : im_S} {n n' mm i : Nat} {D : Int} {p p' : Nat → List Int} {M M' : Nat → Nat → Nat} {P : List Int} (ha : atQ9 P i p M n) (hB : BI s' n' D) (hF : BF s' n' p' M' mm) (h : ∀ x : Rat, PRd p' (fun e => M' e i) x n' = PRd p (fun e => M e i) x n) : atQ9 P i p' M' n' := by
  refine ⟨fun z => M_keep hB hF h (ha.1 z), fun nz => ?_⟩
  obtain ⟨c, d, h1, h2, h3⟩ := ha.2 nz
  exact ⟨c, d, h1, h2, fun x => by rw [h x]; exact h3 x⟩
theorem RTP_all {s : im_S} {N e n : Nat} {p : Nat → List Int} {cs : Nat → Rat → Int} (h : RTP s N e e n p cs) : RTP s N n n n p cs := by
  refine ⟨fun j hj => ?_, fun o ho _ => h.2.1 o ho (by omega), h.2.2⟩
  obtain ⟨a, o, b1, b2, b3⟩ := h.1 j hj
  exact ⟨a, o, b1, by omega, b3⟩
theorem atoms_v {s : im_S} {m : Nat} {F : Nat → List Int} {Q : Int → im_S → Prop} (hB : BI s 0 ((8 : Int) * ((0 : Nat) : Int))) (hm : m ≤ 10) (h11 : s.1 2 11 = (m : Int)) (hF : ∀ j, j < m → ply s (61 + 2 * j) (F j) ∧ pab (F j) 1000000000) (hk : kp1 s) (ne : s.1 247 3 ≠ s.1 247 4) (hQ : ∀ (s1 : im_S) (N n1 : Nat) (p1 : Nat → List Int) (M1 : Nat → Nat → Nat) (cs : Nat → Rat → Int), BI s1 n1 80 → BF s1 n1 p1 M1 6480 → N ≤ 80 → s1.1 83 3 = (N : Int) → RTP s1 N n1 n1 n1 p1 cs → (∀ j, j < m → atQ9 (F j) j p1 M1 n1) → kp1 s1 → upf s s1 → s1.1 247 3 ≠ s1.1 247 4 → (∀ j, m ≤ j → j < 10 → ∀ e, e < n1 → M1 e j = 0) → ∀ s10, s10 = cpf s1 1 4 0 → ploop (fun (K : Int × im_S → Prop) (a : Int × im_S) => C_load9x_164 K a.1 a.2 Q) (0, s10)) : ploop (fun (K : Int × im_S → Prop) (a : Int × im_S) => C_load9x_83 K a.1 a.2 Q) (0, s) := by
  refine ⟨fun a => ∃ (i n : Nat) (p : Nat → List Int) (M : Nat → Nat → Nat), a.1 = (i : Int) ∧ i ≤ m ∧ BI a.2 n ((8 : Int) * (i : Int)) ∧ BF a.2 n p M (648 * i) ∧ a.2.1 247 3 ≠ a.2.1 247 4 ∧ a.2.1 2 11 = (m : Int) ∧ (∀ j, j < m → ply a.2 (61 + 2 * j) (F j)) ∧ (∀ j, j < i → atQ9 (F j) j p M n) ∧ (∀ j, i ≤ j → j < 10 → ∀ e, e < n → M e j = 0) ∧ kp1 a.2 ∧ upf s a.2, ⟨0, 0, fun _ => [], fun _ _ => 0, rfl, by omega, hB, ⟨fun e he => by omega, fun e e' he => by omega, fun e i he => by omega⟩, ne, h11, fun j hj => (hF j hj).1, fun j hj => by omega, fun j _ _ e he => by omega, hk, gfr_refl _ _ _⟩, ?_⟩
  rintro ⟨x, s7⟩ ⟨i, n, p, M, e, im, B7, F7, ne7, m7, a7, r7, z7, k7, u7⟩
  dsimp only at e B7 F7 ne7 m7 a7 k7 u7 ⊢
  subst e
  refine ⟨fun c s8 e8 => ?_, fun c => ?_⟩
  · have g8 : gfr (fun c k => c = 83 ∧ k = 3) (fun _ => False) s7 s8 := by subst e8; exact gfr_pf (gfr_refl _ _ _) ⟨rfl, rfl⟩
    have B8 := BI_co B7 g8 (fun e he => by omega) (fun e he => fun z => z) (by omega) (dI_co B7.2.2.2.2 g8 (by omega) (by omega))
    have F8 := BF_co F7 g8 B7.2.1 (fun e he => by omega) (fun e he => fun z => z) (fun z => z)
    obtain ⟨b1, b2, b3, b4, b5⟩ := B8
    obtain ⟨c1, ⟨lo, hi, mi, ot, c2⟩, c3, c4⟩ := k7
    have c2' : fq s8 lo hi mi ot := by
      unfold fq
      rw [g8.1 83 13 (by omega), g8.1 83 14 (by omega), g8.1 83 15 (by omega), g8.1 83 16 (by omega)]
      exact c2
    have ei : i = m := by unfold cgf at c; omega
    subst ei
    refine pieces_v (n := n) ⟨b1, b2, b3, by omega, b5⟩ (BF_m F8 (show 648 * i ≤ 6480 by omega)) (by subst e8; rw [cpf_same]) ⟨slb_fr c1 g8 (fun c k e => by omega) (fun c e => e.elim), ⟨lo, hi, mi, ot, c2'⟩, big_co c3 (g8.1 _ _ (by omega)) (g8.1 _ _ (by omega)) (g8.2 _ (fun z => z)), big_co c4 (g8.1 _ _ (by omega)) (g8.1 _ _ (by omega)) (g8.2 _ (fun z => z))⟩ (fun s1 N n1 p1 M1 cs B1 F1 N80 f1 R1 pr1 k1 u1 v1 => ?_)
    exact hQ s1 N n1 p1 M1 cs B1 F1 N80 f1 (RTP_all R1) (fun j hj => atQ9_co (r7 j hj) B1 F1 (pr1 j)) k1 (gfr_trans u7 (gfr_trans (gfr_mono g8 (fun c k e => by omega) (fun c e => e.elim)) u1)) (by rw [v1.1, v1.2, g8.1 _ _ (by omega), g8.1 _ _ (by omega)]; exact ne7) (fun j j1 j2 => M_keep B1 F1 (pr1 j) (z7 j j1 j2))
  · have im' : i < m := by unfold cgf at c; omega
    rw [Int.toNat_natCast]
    refine addAtom_v (D' := 8 * ((i + 1 : Nat) : Int)) (by omega) B7 F7 (by omega) (a7 i im') (hF i im').2 (by omega) (by omega) (by omega) ne7 (z7 i (Nat.le_refl _) (by omega)) (fun s8 n8 p8 M8 B8 F8 g8 ne8 pr8 q8 q9 => ?_)
    have pr9 : ∀ j, j < 10 → j ≠ i → ∀ x : Rat, PRd p8 (fun e => M8 e j) x n8 = PRd p (fun e => M e j) x n := pr8
    refine ⟨i + 1, n8, p8, M8, w32s (by omega), by omega, B8, BF_m F8 (by omega), ne8, by rw [g8.1 _ _ (by omega)]; exact m7, fun j hj => ply_fr (a7 j hj) g8 (by omega) (by omega), fun j hj => ?_, fun j j1 j2 => M_keep B8 F8 (pr9 j j2 (by omega)) (z7 j (by omega) j2), ?_, ?_⟩
    · by_cases ji : j = i
      · subst ji; exact ⟨q8, q9⟩
      · exact atQ9_co (r7 j (by omega)) B8 F8 (pr9 j (by omega) ji)
    · exact kp1_co k7 g8 (fun c k e => by omega) (fun c e => by omega) (fun k => by omega) (fun k => by omega) (by omega) (by omega)
    · exact gfr_trans u7 (gfr_mono g8 (fun c k e => by omega) (fun c e => by omega))
