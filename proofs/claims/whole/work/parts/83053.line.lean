/-! load up to fillCells: the line holds all roots, rising -/
theorem line_v {s0 s : im_S} {N n mm : Nat} {D : Int} {p : Nat → List Int} {M : Nat → Nat → Nat} {cs : Nat → Rat → Int} {Q : Int → im_S → Prop} (hN : N ≤ 80) (hf : s.1 83 3 = (N : Int)) (hz : s.1 1 4 = 0) (h : LIV s N n mm D p M cs) (hk : kp1 s) (hu : upf s0 s) (hQ : ∀ s', LIV s' N n mm D p M cs → s'.1 1 4 = (N : Int) → s'.1 83 3 = (N : Int) → ODV (s'.2 577) N cs → kp1 s' → upf s0 s' → (s'.1 247 3 = s.1 247 3 ∧ s'.1 247 4 = s.1 247 4) → C_fillCells4 s' (fun s3 => Q (cgf s3 0 1) s3)) : ploop (fun (K : Int × im_S → Prop) (a : Int × im_S) => C_load9x_164 K a.1 a.2 Q) (0, s) := by
  refine ⟨fun a => ∃ i : Nat, a.1 = (i : Int) ∧ i ≤ N ∧ LIV a.2 N n mm D p M cs ∧ a.2.1 83 3 = (N : Int) ∧ a.2.1 1 4 = (i : Int) ∧ ODV (a.2.2 577) i cs ∧ kp1 a.2 ∧ upf s0 a.2 ∧ (a.2.1 247 3 = s.1 247 3 ∧ a.2.1 247 4 = s.1 247 4), ⟨0, rfl, by omega, h, hf, hz, ⟨fun k hk => by omega, fun k hk => by omega, fun k k' m m' _ hk => by omega⟩, hk, hu, rfl, rfl⟩, ?_⟩
  rintro ⟨x, s1⟩ ⟨i, e, iN, L1, f1, z1, o1, k1, u1, v1, v2⟩
  dsimp only at e L1 f1 z1 o1 k1 u1 v1 v2 ⊢
  subst e
  refine ⟨fun c => ?_, fun c => ?_⟩
  · have : i = N := by unfold cgf at c; omega
    subst this
    exact hQ s1 L1 z1 f1 o1 k1 u1 ⟨v1, v2⟩
  · have iN' : i < N := by unfold cgf at c; omega
    refine insert_v hN iN' z1 L1 o1 (fun s2 L2 z2 o2 g2 => ?_)
    refine ⟨i + 1, w32s (by omega), by omega, L2, ?_, z2, o2, ?_, ?_, by dsimp only; rw [g2.1 _ _ (by unfold inF cdF; omega)]; exact v1, by dsimp only; rw [g2.1 _ _ (by unfold inF cdF; omega)]; exact v2⟩
    · rw [g2.1 _ _ (by unfold inF cdF; omega)]; exact f1
    · exact kp1_fq k1 L2.2.2.2.1 g2 (fun c k e => by unfold inF cdF at e; omega) (fun c e => by unfold inR cdR at e; omega) (fun k => by unfold inF cdF; omega) (fun k => by unfold inF cdF; omega) (by unfold inR cdR; omega) (by unfold inR cdR; omega)
    · exact gfr_trans u1 (gfr_mono g2 (fun c k e => by unfold inF cdF at e; omega) (fun c e => by unfold inR cdR at e; omega))
/-- load behind read: from the atoms to fillCells -/
theorem body_v {s : im_S} {m : Nat} {F : Nat → List Int} {Q : Int → im_S → Prop} (hB : BI s 0 ((8 : Int) * ((0 : Nat) : Int))) (hm : m ≤ 10) (h11 : s.1 2 11 = (m : Int)) (hF : ∀ j, j < m → ply s (61 + 2 * j) (F j) ∧ pab (F j) 1000000000) (hk : kp1 s) (ne : s.1 247 3 ≠ s.1 247 4) (hQ : ∀ (s' : im_S) (N n : Nat) (p : Nat → List Int) (M : Nat → Nat → Nat) (cs : Nat → Rat → Int), N ≤ 80 → LIV s' N n 6480 80 p M cs → s'.1 1 4 = (N : Int) → s'.1 83 3 = (N : Int) → ODV (s'.2 577) N cs → (∀ j, j < m → atQ9 (F j) j p M n) → kp1 s' → upf s s' → s'.1 247 3 ≠ s'.1 247 4 → (∀ j, m ≤ j → j < 10 → ∀ e, e < n → M e j = 0) → C_fillCells4 s' (fun s3 => Q (cgf s3 0 1) s3)) : ploop (fun (K : Int × im_S → Prop) (a : Int × im_S) => C_load9x_83 K a.1 a.2 Q) (0, s) := by
  refine atoms_v hB hm h11 hF hk ne (fun s1 N n1 p1 M1 cs B1 F1 N80 f1 R1 at1 k1 u1 ne1 z1 s2 e2 => ?_)
  have g2 : gfr (fun c k => c = 1 ∧ k = 4) (fun _ => False) s1 s2 := by subst e2; exact gfr_pf (gfr_refl _ _ _) ⟨rfl, rfl⟩
  have w2 : iwf s1 s2 := gfr_mono g2 (fun c k e => Or.inl e) (fun c e => e.elim)
  have L1 : LIV s1 N n1 6480 80 p1 M1 cs := ⟨B1, F1, R1, k1.2.1, k1.2.2.2⟩
  refine line_v (s0 := s) N80 (by rw [g2.1 _ _ (by omega)]; exact f1) (by subst e2; rw [cpf_same]) (LIV_co N80 L1 w2) (kp1_co k1 g2 (fun c k e => by omega) (fun c e => e.elim) (fun k => by omega) (fun k => by omega) (fun z => z) (fun z => z)) (gfr_trans u1 (gfr_mono g2 (fun c k e => by omega) (fun c e => e.elim))) (fun s3 L3 z3 f3 o3 k3 u3 v3 => hQ s3 N n1 p1 M1 cs N80 L3 z3 f3 o3 at1 k3 u3 (by rw [v3.1, v3.2, g2.1 _ _ (by omega), g2.1 _ _ (by omega)]; exact ne1) z1)
