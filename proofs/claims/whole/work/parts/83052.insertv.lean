theorem insert_v {s : im_S} {N n mm i : Nat} {D : Int} {p : Nat → List Int} {M : Nat → Nat → Nat} {cs : Nat → Rat → Int} {Q : im_S → Prop} (hN : N ≤ 80) (hi : i < N) (hz : s.1 1 4 = (i : Int)) (h : LIV s N n mm D p M cs) (ho : ODV (s.2 577) i cs) (hQ : ∀ s', LIV s' N n mm D p M cs → s'.1 1 4 = ((i + 1 : Nat) : Int) → ODV (s'.2 577) (i + 1) cs → inf9 N s s' → Q s') : C_insert4 (i : Int) s Q := by
  unfold C_insert4
  rw [show cgf s 1 4 = (i : Int) from hz, Int.toNat_natCast]
  refine ⟨fun _ => ?_, fun c => by omega⟩
  refine ⟨fun a => ∃ t : Nat, a.1 = (t : Int) ∧ t ≤ i ∧ LIV a.2 N n mm D p M cs ∧ a.2.1 1 4 = (i : Int) ∧ (∀ k, k < t → a.2.2 577 k = s.2 577 k) ∧ (∀ k, t ≤ k → k < i → a.2.2 577 (k + 1) = s.2 577 k) ∧ (∀ k m : Nat, t ≤ k → k < i → s.2 577 k = (m : Int) → lft9 (cs i) (cs m)) ∧ inf9 N s a.2, ⟨i, rfl, Nat.le_refl _, h, hz, fun _ _ => rfl, fun k _ _ => by omega, fun k m _ _ => by omega, gfr_refl _ _ _⟩, ?_⟩
  rintro ⟨x, s1⟩ ⟨t, et, tz, L1, z1, a1, a2, a3, g1⟩
  dsimp only at et L1 z1 a1 a2 a3 g1 ⊢
  subst et
  have put : ∀ s2 : im_S, LIV s2 N n mm D p M cs → s2.1 1 4 = (i : Int) → (∀ k, k < t → s2.2 577 k = s.2 577 k) → (∀ k, t ≤ k → k < i → s2.2 577 (k + 1) = s.2 577 k) → inf9 N s s2 → (∀ k m : Nat, k < t → s.2 577 k = (m : Int) → lft9 (cs m) (cs i)) → C_insert4_107 (i : Int) (t : Int) s2 Q := by
    intro s2 L2 z2 b1 b2 g2 hl _ s3 e3 s4 e4
    have w : iwf s2 s4 := by subst e3; subst e4; exact gfr_pf (gfr_pa (gfr_refl _ _ _) (by omega)) (Or.inl ⟨rfl, rfl⟩)
    have z4 : s4.1 1 4 = ((i + 1 : Nat) : Int) := by
      subst e4
      rw [cpf_same, show cgf s3 1 4 = (i : Int) by subst e3; exact z2, w32_id (by omega) (by omega)]; omega
    have row : ∀ k, s4.2 577 k = if k = t then (i : Int) else s2.2 577 k := fun k => by
      subst e4
      subst e3
      show (cpa s2 577 (t : Int) (i : Int)).2 577 k = _
      rw [cpa_row, Int.toNat_natCast]
    exact hQ s4 (LIV_co hN L2 w) z4 (ODV_ins ho tz (fun k hk => by rw [row, if_neg (by omega)]; exact b1 k hk) (by rw [row, if_pos rfl]) (fun k k1 k2 => by rw [row, if_neg (by omega)]; exact b2 k k1 k2) hl a3) (gfr_trans g2 (iwf_in w))
  refine ⟨fun t0 => put s1 L1 z1 a1 a2 g1 (fun k m hk => by omega), fun t0 => ?_⟩
  have e1 : w32 ((t : Int) - 1) = ((t - 1 : Nat) : Int) := by rw [w32_id (by omega) (by omega)]; omega
  rw [e1]
  refine min_J (max_J (fun _ => ?_))
  have e2 : max 0 (min ((t - 1 : Nat) : Int) 79) = ((t - 1 : Nat) : Int) := by omega
  rw [e2]
  obtain ⟨ir, irl, hir⟩ := ho.1 (t - 1) (by omega)
  have e3 : cga s1 577 ((t - 1 : Nat) : Int) = (ir : Int) := by
    show s1.2 577 ((t - 1 : Nat) : Int).toNat = _
    rw [Int.toNat_natCast, a1 (t - 1) (by omega), hir]
  rw [e3, Int.toNat_natCast]
  refine cmp_v hN hi irl L1 (fun v s2 L2 ro zo w hv => ?_)
  have g2 := gfr_trans g1 w
  have c1 : ∀ k, k < t → s2.2 577 k = s.2 577 k := fun k hk => by rw [ro]; exact a1 k hk
  have c2 : ∀ k, t ≤ k → k < i → s2.2 577 (k + 1) = s.2 577 k := fun k k1 k2 => by rw [ro]; exact a2 k k1 k2
  refine ⟨fun vn _ _ s3 e4 => ?_, fun vp => put s2 L2 (zo.trans z1) c1 c2 g2 (fun k m hk q => ?_)⟩
  · have w3 : iwf s2 s3 := by subst e4; exact gfr_pa (gfr_refl _ _ _) (by omega)
    have val : cga s2 577 (w32 ((t : Int) - 1)) = (ir : Int) := by
      rw [e1]
      show s2.2 577 ((t - 1 : Nat) : Int).toNat = _
      rw [Int.toNat_natCast, c1 (t - 1) (by omega), hir]
    have row : ∀ k, s3.2 577 k = if k = t then (ir : Int) else s2.2 577 k := fun k => by
      subst e4
      rw [cpa_row, Int.toNat_natCast, val]
    have lf : lft9 (cs i) (cs ir) := by
      rcases hv with q | q
      · exact q.2
      · omega
    refine ⟨t - 1, by dsimp only; rw [w32_id (by omega) (by omega)]; omega, by omega, LIV_co hN L2 w3, ?_, fun k hk => ?_, fun k k1 k2 => ?_, fun k m k1 k2 q => ?_, gfr_trans g2 (iwf_in w3)⟩
    · dsimp only
      have : s3.1 1 4 = s2.1 1 4 := by subst e4; rfl
      rw [this]
      exact zo.trans z1
    · dsimp only
      rw [row, if_neg (by omega)]
      exact c1 k (by omega)
    · dsimp only
      rw [row]
      by_cases ck : k = t - 1
      · rw [if_pos (by omega), ck, hir]
      · rw [if_neg (by omega)]
        exact c2 k (by omega) k2
    · by_cases ck : k = t - 1
      · subst ck
        have : m = ir := by omega
        subst this
        exact lf
      · exact a3 k m (by omega) k2 q
  · have lf : lft9 (cs ir) (cs i) := by
      rcases hv with q | q
      · omega
      · exact q.2
    by_cases ck : k = t - 1
    · subst ck
      have : m = ir := by omega
      subst this
      exact lf
    · obtain ⟨m2, m2l, m2e⟩ := ho.1 k (by omega)
      have mm2 : m = m2 := by omega
      subst mm2
      have l1 := ho.2.2 k (t - 1) m ir (by omega) (by omega) q hir
      exact lft9_tr (L1.2.2.1.1 m (by omega)).1 (L1.2.2.1.1 ir (by omega)).1 l1 lf
