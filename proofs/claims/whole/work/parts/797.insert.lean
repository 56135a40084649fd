/-! insert -/
/-- the first k places of the order are roots below N -/
def odk (s : im_S) (N k : Nat) : Prop := ∀ i, i < k → 0 ≤ s.2 577 i ∧ s.2 577 i < N
def inF (N c f : Nat) : Prop := cdF N c f ∨ (c = 1 ∧ f = 4)
def inR (N c : Nat) : Prop := cdR N c ∨ c = 577
def inf9 (N : Nat) (s s' : im_S) : Prop := gfr (inF N) (inR N) s s'
theorem insert_b {s : im_S} {n N i z : Nat} {D : Int} {Q : im_S → Prop} (hB : BI s n D) (hN : N ≤ 80) (hi : i < N) (hz : s.1 1 4 = (z : Int)) (z80 : z < 80) (ho : odk s N z) (hr : ∀ k, k < N → rgo s n k) (hf : ∃ lo hi mi ot, fq s lo hi mi ot) (h5 : big s 553 1) (hQ : ∀ s', (∀ k, k < N → rgo s' n k) → BI s' n D → (∃ lo hi mi ot, fq s' lo hi mi ot) → s'.1 1 4 = ((z + 1 : Nat) : Int) → odk s' N (z + 1) → inf9 N s s' → Q s') : C_insert4 (i : Int) s Q := by
  have n80 := hB.2.1
  unfold C_insert4
  rw [show cgf s 1 4 = (z : Int) from hz, Int.toNat_natCast]
  refine ⟨fun _ => ?_, fun c => by omega⟩
  refine ⟨fun a => ∃ t : Nat, a.1 = (t : Int) ∧ t ≤ z ∧ (∀ k, k < N → rgo a.2 n k) ∧ BI a.2 n D ∧ (∃ lo hi mi ot, fq a.2 lo hi mi ot) ∧ a.2.1 1 4 = (z : Int) ∧ odk a.2 N z ∧ (t < z → 0 ≤ a.2.2 577 z ∧ a.2.2 577 z < N) ∧ inf9 N s a.2, ⟨z, rfl, Nat.le_refl _, hr, hB, hf, hz, ho, fun h => by omega, gfr_refl _ _ _⟩, ?_⟩
  rintro ⟨x, s1⟩ ⟨t, et, tz, r1, B1, f1, z1, o1, oz, g1⟩
  dsimp only at et r1 B1 f1 z1 o1 oz g1 ⊢
  subst et
  have put : ∀ s2 : im_S, (∀ k, k < N → rgo s2 n k) → BI s2 n D → (∃ lo hi mi ot, fq s2 lo hi mi ot) → s2.1 1 4 = (z : Int) → odk s2 N z → (t < z → 0 ≤ s2.2 577 z ∧ s2.2 577 z < N) → inf9 N s s2 → C_insert4_107 (i : Int) (t : Int) s2 Q := by
    intro s2 r2 B2 f2 z2 o2 oz2 g2 _ s3 e3 s4 e4
    have w : gfr (fun c f => c = 1 ∧ f = 4) (fun c => c = 577) s2 s4 := by subst e3; subst e4; exact gfr_pf (gfr_pa (gfr_refl _ _ _) rfl) ⟨rfl, rfl⟩
    have z4 : s4.1 1 4 = ((z + 1 : Nat) : Int) := by
      subst e4
      rw [cpf_same, show cgf s3 1 4 = (z : Int) by subst e3; exact z2, w32_id (by omega) (by omega)]; omega
    have row : ∀ k, s4.2 577 k = if k = t then (i : Int) else s2.2 577 k := fun k => by
      subst e4
      subst e3
      show (cpa s2 577 (t : Int) (i : Int)).2 577 k = _
      rw [cpa_row, Int.toNat_natCast]
    refine hQ s4 (fun k hk => rgo_co (r2 k hk) w (fun k => by omega) (fun k => by omega) (by omega) (fun e he => by omega) (fun e he => by omega)) (BI_co B2 w (fun e he => by omega) (fun e he => by omega) (by omega) (dI_co B2.2.2.2.2 w (by omega) (by omega))) ?_ z4 (fun k hk => ?_) (gfr_trans g2 (gfr_mono w (fun c f e => Or.inr e) (fun c e => Or.inr e)))
    · obtain ⟨lo, hi', mi, ot, h⟩ := f2
      exact ⟨lo, hi', mi, ot, fq_co h w (fun k => by omega)⟩
    · rw [row]
      split
      · omega
      · rename_i ne
        by_cases kz : k = z
        · subst kz; exact oz2 (by omega)
        · exact o2 k (by omega)
  refine ⟨fun _ => put s1 r1 B1 f1 z1 o1 oz g1, fun t0 => ?_⟩
  have e1 : w32 ((t : Int) - 1) = ((t - 1 : Nat) : Int) := by rw [w32_id (by omega) (by omega)]; omega
  rw [e1]
  refine min_J (max_J (fun _ => ?_))
  have e2 : max 0 (min ((t - 1 : Nat) : Int) 79) = ((t - 1 : Nat) : Int) := by omega
  rw [e2]
  have oo := o1 (t - 1) (by omega)
  have e3 : cga s1 577 ((t - 1 : Nat) : Int) = s1.2 577 (t - 1) := by
    show s1.2 577 ((t - 1 : Nat) : Int).toNat = _
    rw [Int.toNat_natCast]
  rw [e3]
  obtain ⟨ir, hir⟩ : ∃ ir : Nat, s1.2 577 (t - 1) = (ir : Int) := ⟨(s1.2 577 (t - 1)).toNat, by omega⟩
  rw [hir, Int.toNat_natCast]
  have irN : ir < N := by omega
  -- behind a comparison
  have next : ∀ (s2 : im_S) (v : Int), (∀ k, k < N → rgo s2 n k) → BI s2 n D → (∃ lo hi mi ot, fq s2 lo hi mi ot) → cdf N s1 s2 → C_insert4_79 (fun a => ∃ t : Nat, a.1 = (t : Int) ∧ t ≤ z ∧ (∀ k, k < N → rgo a.2 n k) ∧ BI a.2 n D ∧ (∃ lo hi mi ot, fq a.2 lo hi mi ot) ∧ a.2.1 1 4 = (z : Int) ∧ odk a.2 N z ∧ (t < z → 0 ≤ a.2.2 577 z ∧ a.2.2 577 z < N) ∧ inf9 N s a.2) (i : Int) (311 + 3 * i) (t : Int) v s2 Q := by
    intro s2 v r2 B2 f2 w
    have z2 : s2.1 1 4 = (z : Int) := by rw [w.1 _ _ (by unfold cdF; omega)]; exact z1
    have ro2 : s2.2 577 = s1.2 577 := w.2 _ (by unfold cdR; omega)
    have o2 : odk s2 N z := fun k hk => by rw [ro2]; exact o1 k hk
    have oz2 : t < z → 0 ≤ s2.2 577 z ∧ s2.2 577 z < N := fun h => by rw [ro2]; exact oz h
    have g2 : inf9 N s s2 := gfr_trans g1 (gfr_mono w (fun c f e => Or.inl e) (fun c e => Or.inl e))
    refine ⟨fun _ _ _ s3 e4 => ?_, fun _ => put s2 r2 B2 f2 z2 o2 oz2 g2⟩
    have w3 : gfr (fun _ _ => False) (fun c => c = 577) s2 s3 := by subst e4; exact gfr_pa (gfr_refl _ _ _) rfl
    have val : cga s2 577 (w32 ((t : Int) - 1)) = (ir : Int) := by
      rw [e1]
      show s2.2 577 ((t - 1 : Nat) : Int).toNat = _
      rw [Int.toNat_natCast, ro2, hir]
    have row : ∀ k, s3.2 577 k = if k = t then (ir : Int) else s2.2 577 k := fun k => by
      subst e4
      rw [cpa_row, Int.toNat_natCast, val]
    refine ⟨t - 1, by dsimp only; rw [w32_id (by omega) (by omega)]; omega, by omega, fun k hk => rgo_co (r2 k hk) w3 (fun k z => z) (fun k z => z) (by omega) (fun e he z => z) (fun e he => by omega), BI_co B2 w3 (fun e he z => z) (fun e he => by omega) (fun z => z) (dI_co B2.2.2.2.2 w3 (fun z => z) (fun z => z)), ?_, by rw [w3.1 _ _ (fun z => z)]; exact z2, fun k hk => ?_, fun _ => ?_, gfr_trans g2 (gfr_mono w3 (fun c f e => e.elim) (fun c e => Or.inr e))⟩
    · obtain ⟨lo, hi', mi, ot, h⟩ := f2
      exact ⟨lo, hi', mi, ot, fq_co h w3 (fun k z => z)⟩
    · dsimp only
      rw [row]
      split
      · omega
      · exact o2 k hk
    · dsimp only
      rw [row]
      split
      · omega
      · exact oz2 (by omega)
  refine quickly_f f1 (fun v s2 w2 => ?_)
  have r2 : ∀ k, k < N → rgo s2 n k := fun k hk => rgo_co (r1 k hk) w2 (fun k => by omega) (fun k => by omega) (by omega) (fun e he => by omega) (fun e he => by omega)
  have B2 : BI s2 n D := BI_co B1 w2 (fun e he => by omega) (fun e he => by omega) (by omega) (dI_co B1.2.2.2.2 w2 (by omega) (by omega))
  have f2 : ∃ lo hi mi ot, fq s2 lo hi mi ot := by
    obtain ⟨lo, hi', mi, ot, h⟩ := f1
    exact ⟨lo, hi', mi, ot, fq_co h w2 (fun k => by omega)⟩
  refine ⟨fun _ => next s2 v r2 B2 f2 (wkf_cdf w2), fun _ => ⟨fun _ => next s2 v r2 B2 f2 (wkf_cdf w2), fun _ => ?_⟩⟩
  have o2 : big s2 553 1 := big_g (big_g h5 g1 (by unfold inF cdF; omega) (by unfold inF cdF; omega) (by unfold inR cdR; omega)) w2 (by omega) (by omega) (by omega)
  exact deeply_b B2 hN hi irN r2 f2 o2 (fun v3 s3 r3 B3 f3 g3 => next s3 v3 r3 B3 f3 (gfr_trans (wkf_cdf w2) g3))
