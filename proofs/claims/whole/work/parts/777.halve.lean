/-! dropZero, halve, changes -/
def cnf (s s' : im_S) : Prop := gfr (fun c f => ((270 ≤ c ∧ c < 306 ∧ c % 4 = 2) ∧ (f = 1 ∨ f = 2)) ∨ (c = 267 ∧ (f = 4 ∨ f = 5)) ∨ (c = 306 ∧ (f = 1 ∨ f = 2))) (fun c => (271 ≤ c ∧ c < 307 ∧ c % 4 = 3) ∨ c = 307) s s'
theorem mvf_cnf {s s' : im_S} (h : mvf s s') : cnf s s' := gfr_mono h (fun c f e => by omega) (fun c e => by omega)
theorem cnf_b {s s' s2 : im_S} {i : Nat} (h : cnf s s') (hi : i < 9) (hb : bfr (270 + 4 * i) s' s2) : cnf s s2 := gfr_b h hb (by omega) (by omega) (by omega)
theorem cnf_c {s s' s2 : im_S} (h : cnf s s') (hb : bfr 306 s' s2) : cnf s s2 := gfr_b h hb (by omega) (by omega) (by omega)
theorem big_co {s s' : im_S} {a : Nat} {v : Int} (h : big s a v) (h1 : s'.1 a 1 = s.1 a 1) (h2 : s'.1 a 2 = s.1 a 2) (h3 : s'.2 (a + 1) = s.2 (a + 1)) : big s' a v := by
  unfold big
  rw [h1, h2, h3]
  exact h
theorem big_g {F : Nat → Nat → Prop} {R : Nat → Prop} {s s' : im_S} {a : Nat} {v : Int} (h : big s a v) (f : gfr F R s s') (h1 : ¬ F a 1) (h2 : ¬ F a 2) (h3 : ¬ R (a + 1)) : big s' a v := big_co h (f.1 _ _ h1) (f.1 _ _ h2) (f.2 _ h3)
theorem dropZero_b {s : im_S} {d M : Nat} {m : List Int} {Q : im_S → Prop} (hd : s.1 267 4 = ((d + 1 : Nat) : Int)) (d8 : d + 1 ≤ 8) (hm : m.length = d + 2) (hs : bgs s 270 (d + 1) m) (hM : pab m M) (hB : (M : Int) < BB) (hQ : ∀ s', bgs s' 270 d m.tail → s'.1 267 4 = (d : Int) → s'.1 267 5 = s.1 267 5 → cnf s s' → (∀ v, big s 306 v → big s' 306 v) → Q s') : C_dropZero5 s Q := by
  refine ⟨fun a => ∃ i : Nat, a.1 = (i : Int) ∧ i ≤ d + 1 ∧ mvf s a.2 ∧ (∀ k, k < i → big a.2 (270 + 4 * k) (pgt m (k + 1))) ∧ ∀ k, i ≤ k → k ≤ d + 1 → big a.2 (270 + 4 * k) (pgt m k), ⟨0, rfl, by omega, gfr_refl _ _ _, fun k hk => by omega, fun k _ hk => hs k hk⟩, ?_⟩
  rintro ⟨x, s1⟩ ⟨i, ei, id, f1, h1, h2⟩
  dsimp only at ei f1 h1 h2 ⊢
  subst ei
  have hd1 : cgf s1 267 4 = ((d + 1 : Nat) : Int) := by show s1.1 267 4 = _; rw [f1.1 _ _ (by omega)]; exact hd
  unfold C_dropZero5_2
  rw [hd1]
  refine ⟨fun c s2 e2 => ?_, fun c => ?_⟩
  · have : i = d + 1 := by omega
    subst this
    rw [w32_id (by omega) (by omega)] at e2
    subst e2
    refine hQ _ (fun k hk => ?_) ?_ ?_ (gfr_pf (mvf_cnf f1) (by omega)) (fun v hv => ?_)
    · rw [pgt_tail]
      exact big_co (h1 k (by omega)) (cpf_ne (by omega)) (cpf_ne (by omega)) rfl
    · rw [cpf_same]; omega
    · rw [cpf_ne (by omega), f1.1 _ _ (by omega)]
    · exact big_co (big_g hv f1 (by omega) (by omega) (by omega)) (cpf_ne (by omega)) (cpf_ne (by omega)) rfl
  · rw [w32s (by omega), Int.toNat_natCast, Int.toNat_natCast]
    have b := hM (i + 1)
    have g := (gln_mv i (by omega)).1
    refine copy_b (h2 (i + 1) (by omega) (by omega)) (by omega) (by rw [rm_mv (by omega)]; omega) (by omega) (fun s2 b2 f2 => ⟨i + 1, rfl, by omega, mvf_b f1 (by omega) f2, fun k hk => ?_, fun k k1 k2 => ?_⟩)
    · by_cases ck : k = i
      · subst ck; exact b2
      · exact big_fr (h1 k (by omega)) f2 (by omega)
    · exact big_fr (h2 k (by omega) k2) f2 (by omega)
theorem pH_gt : ∀ (m : List Int) (i : Nat), i < m.length → pgt (pH m) i = 2 ^ (m.length - 1 - i) * pgt m i
  | [], i, h => by simp at h
  | a :: p, 0, _ => by
    show 2 ^ p.length * a = 2 ^ (p.length + 1 - 1 - 0) * a
    rw [Nat.add_sub_cancel, Nat.sub_zero]
  | a :: p, i + 1, h => by
    rw [List.length_cons] at h
    show pgt (pH p) i = 2 ^ (p.length + 1 - 1 - (i + 1)) * pgt p i
    rw [pH_gt p i (by omega), show p.length + 1 - 1 - (i + 1) = p.length - 1 - i by omega]
set_option maxRecDepth 100000 in
theorem gln306 : gln 307 = 24 := by decide +kernel
theorem rm306 : (4294967296 : Int) ^ rm9 306 = 4294967296 ^ 24 := by
  unfold rm9; rw [gln306]; rfl
theorem halve_b {s : im_S} {d : Nat} {c b : Int} {m : List Int} {Q : im_S → Prop} (hd : s.1 267 4 = (d : Int)) (d8 : d ≤ 8) (hm : m.length = d + 1) (hs : bgs s 270 d m) (hM : ∀ k, ((pgt (pH m) k).natAbs : Int) < BB) (hc : big s 306 c) (cb : (c.natAbs : Int) * 2 < 4294967296 ^ 24) (hb : s.1 267 5 = b) (bb : -1000 ≤ b) (bb2 : b ≤ 1000) (hQ : ∀ s', bgs s' 270 d (pH m) → big s' 306 (2 * c) → s'.1 267 4 = (d : Int) → s'.1 267 5 = b + 1 → cnf s s' → Q s') : C_halve5 s Q := by
  refine ⟨fun a => ∃ i : Nat, a.1 = (i : Int) ∧ i ≤ d ∧ mvf s a.2 ∧ (∀ k, k < i → big a.2 (270 + 4 * k) (pgt (pH m) k)) ∧ ∀ k, i ≤ k → k ≤ d → big a.2 (270 + 4 * k) (pgt m k), ⟨0, rfl, by omega, gfr_refl _ _ _, fun k hk => by omega, fun k _ hk => hs k hk⟩, ?_⟩
  rintro ⟨x, s1⟩ ⟨i, ei, id, f1, h1, h2⟩
  dsimp only at ei f1 h1 h2 ⊢
  subst ei
  have hd1 : cgf s1 267 4 = (d : Int) := by show s1.1 267 4 = _; rw [f1.1 _ _ (by omega)]; exact hd
  unfold C_halve5_2
  rw [hd1]
  refine ⟨fun q => ?_, fun q => ?_⟩
  · have : i = d := by omega
    subst this
    have c1 : big s1 306 c := big_g hc f1 (by omega) (by omega) (by omega)
    refine shiftUp_b c1 (by decide) (by rw [gln306]; decide) (by rw [gln306]; decide) (by rw [rm306]; exact cb) (fun s2 b2 f2 s3 e3 => ?_)
    have e5 : cgf s2 267 5 = b := by show s2.1 267 5 = _; rw [f2.1 _ _ (by omega), f1.1 _ _ (by omega)]; exact hb
    rw [e5, w32_id (by omega) (by omega)] at e3
    have g2 := cnf_c (mvf_cnf f1) f2
    subst e3
    refine hQ _ (fun k hk => ?_) ?_ ?_ (cpf_same _ _ _ _) (gfr_pf g2 (by omega))
    · refine big_co (s := s2) ?_ (cpf_ne (by omega)) (cpf_ne (by omega)) rfl
      refine big_fr ?_ f2 (by omega)
      by_cases ck : k = i
      · subst ck
        have e : pgt (pH m) k = pgt m k := by rw [pH_gt m k (by omega), hm, show k + 1 - 1 - k = 0 by omega]; omega
        rw [e]; exact h2 k (Nat.le_refl _) hk
      · exact h1 k (by omega)
    · refine big_co (s := s2) ?_ (cpf_ne (by omega)) (cpf_ne (by omega)) rfl
      have e : c * 2 ^ (1 : Int).toNat = 2 * c := by show c * 2 ^ 1 = _; omega
      rw [e] at b2; exact b2
    · rw [cpf_ne (by omega), f2.1 _ _ (by omega)]; exact hd1
  · have ew : w32 ((d : Int) - (i : Int)) = ((d - i : Nat) : Int) := by rw [w32_id (by omega) (by omega)]; omega
    rw [ew, Int.toNat_natCast]
    have g := (gln_mv i (by omega)).1
    have eH : pgt m i * 2 ^ ((d - i : Nat) : Int).toNat = pgt (pH m) i := by
      rw [Int.toNat_natCast, pH_gt m i (by omega), hm, show d + 1 - 1 - i = d - i by omega, Int.mul_comm]
    have eA : ((pgt m i).natAbs : Int) * 2 ^ ((d - i : Nat) : Int).toNat = ((pgt (pH m) i).natAbs : Int) := by
      rw [← eH, Int.natAbs_mul, Int.natCast_mul, Int.natAbs_pow, Int.natCast_pow]
      rfl
    refine shiftUp_b (h2 i (Nat.le_refl _) (by omega)) (by omega) (by omega) (by omega) (by rw [eA, rm_mv (by omega)]; exact hM i) (fun s2 b2 f2 => ⟨i + 1, w32s (by omega), by omega, mvf_b f1 (by omega) f2, fun k hk => ?_, fun k k1 k2 => ?_⟩)
    · by_cases ck : k = i
      · subst ck; rw [eH] at b2; exact b2
      · exact big_fr (h1 k (by omega)) f2 (by omega)
    · exact big_fr (h2 k (by omega) k2) f2 (by omega)
/-! changes -/
def tsf (s s' : im_S) : Prop := gfr (fun c f => (272 ≤ c ∧ c < 306 ∧ c % 4 = 0) ∧ (f = 1 ∨ f = 2)) (fun c => 273 ≤ c ∧ c < 306 ∧ c % 4 = 1) s s'
theorem tsf_b {s s' s2 : im_S} {i : Nat} (h : tsf s s') (hi : i < 9) (hb : bfr (272 + 4 * i) s' s2) : tsf s s2 := gfr_b h hb (by omega) (by omega) (by omega)
theorem vr_pos0 : ∀ (r : List Int), (∀ k, 0 ≤ pgt r k) → ∀ l, 0 ≤ l → vr l r = 0
  | [], _, _, _ => rfl
  | x :: r, h, l, hl => by
    have h0 : 0 ≤ x := h 0
    rw [vr_cons, if_neg (by rw [mul_neg_iff]; omega), vr_pos0 r (fun k => h (k + 1)) _ (by split <;> omega)]
theorem vr_neg0 : ∀ (r : List Int), (∀ k, pgt r k ≤ 0) → ∀ l, l ≤ 0 → vr l r = 0
  | [], _, _, _ => rfl
  | x :: r, h, l, hl => by
    have h0 : x ≤ 0 := h 0
    rw [vr_cons, if_neg (by rw [mul_neg_iff]; omega), vr_neg0 r (fun k => h (k + 1)) _ (by split <;> omega)]
theorem pup_nn : ∀ (r : List Int) (a : Int), 0 ≤ a → (∀ k, 0 ≤ pgt r k) → ∀ k, 0 ≤ pgt (pup a r) k
  | [], a, ha, _, 0 => ha
  | [], a, ha, _, k + 1 => Int.le_refl _
  | x :: r, a, ha, h, 0 => by have h0 : 0 ≤ x := h 0; show 0 ≤ a + x; omega
  | x :: r, a, ha, h, k + 1 => pup_nn r x (h 0) (fun k => h (k + 1)) k
theorem pS_nn : ∀ (m : List Int), (∀ k, 0 ≤ pgt m k) → ∀ k, 0 ≤ pgt (pS m) k
  | [], _, k => Int.le_refl _
  | a :: p, h, k => pup_nn (pS p) a (h 0) (pS_nn p (fun k => h (k + 1))) k
theorem pup_np : ∀ (r : List Int) (a : Int), a ≤ 0 → (∀ k, pgt r k ≤ 0) → ∀ k, pgt (pup a r) k ≤ 0
  | [], a, ha, _, 0 => ha
  | [], a, ha, _, k + 1 => Int.le_refl _
  | x :: r, a, ha, h, 0 => by have h0 : x ≤ 0 := h 0; show a + x ≤ 0; omega
  | x :: r, a, ha, h, k + 1 => pup_np r x (h 0) (fun k => h (k + 1)) k
theorem pS_np : ∀ (m : List Int), (∀ k, pgt m k ≤ 0) → ∀ k, pgt (pS m) k ≤ 0
  | [], _, k => Int.le_refl _
  | a :: p, h, k => pup_np (pS p) a (h 0) (pS_np p (fun k => h (k + 1))) k
theorem rev_all {m : List Int} {C : Int → Prop} (h0 : C 0) (h : ∀ k, C (pgt m k)) (k : Nat) : C (pgt m.reverse k) := by
  by_cases c : k < m.length
  · rw [rev_gt m k c]; exact h _
  · rw [pgt_hi _ _ (by rw [List.length_reverse]; omega)]; exact h0
theorem pV_same {m : List Int} (h : (∀ k, 0 ≤ pgt m k) ∨ ∀ k, pgt m k ≤ 0) : pV m = 0 := by
  rcases h with q | q
  · exact vr_pos0 _ (pS_nn _ (rev_all (C := fun x => 0 ≤ x) (Int.le_refl _) q)) 0 (Int.le_refl _)
  · exact vr_neg0 _ (pS_np _ (rev_all (C := fun x => x ≤ 0) (Int.le_refl _) q)) 0 (Int.le_refl _)
theorem big_mk {s : im_S} {a : Nat} {v : Int} (h : big s a v) : s.1 a 2 = v.sign := by
  obtain ⟨n, _, _, h3, _⟩ := h
  exact h3
theorem mixed_b {s : im_S} {d : Nat} {m : List Int} {Q : Int → im_S → Prop} (hd : s.1 267 4 = (d : Int)) (d8 : d ≤ 8) (hm : m.length = d + 1) (hs : bgs s 270 d m) (hQ : ∀ z, (z = 0 → pV m = 0) → Q z s) : C_mixed5 s Q := by
  refine ⟨fun a => a.2.2.2 = s ∧ ∃ i : Nat, a.2.2.1 = (i : Int) ∧ i ≤ d + 1 ∧ (a.1 = 0 → ∀ k, k < i → pgt m k ≤ 0) ∧ (a.2.1 = 0 → ∀ k, k < i → 0 ≤ pgt m k), ⟨rfl, 0, rfl, by omega, fun _ k hk => by omega, fun _ k hk => by omega⟩, ?_⟩
  rintro ⟨p, n, x, s1⟩ ⟨es, i, ei, id, hp, hn⟩
  dsimp only at es ei hp hn ⊢
  subst es
  subst ei
  unfold C_mixed5_7
  rw [show cgf s1 267 4 = (d : Int) from hd]
  refine ⟨fun c v ev => hQ v (fun v0 => pV_same ?_), fun c v ev w ew => ⟨rfl, i + 1, w32s (by omega), by omega, fun h k hk => ?_, fun h k hk => ?_⟩⟩
  · have i1 : i = d + 1 := by omega
    subst i1
    by_cases p0 : p = 0
    · right
      intro k
      by_cases ck : k < d + 1
      · exact hp p0 k ck
      · rw [pgt_hi m k (by omega)]; omega
    · left
      rw [if_neg p0] at ev
      by_cases n0 : n = 0
      · intro k
        by_cases ck : k < d + 1
        · exact hn n0 k ck
        · rw [pgt_hi m k (by omega)]; omega
      · rw [if_neg n0] at ev; omega
  · dsimp only at h
    rw [ev] at h
    have mk := big_mk (hs i (by omega))
    rw [Int.toNat_natCast, show cgf s1 (270 + 4 * i) 2 = _ from mk] at h
    by_cases p0 : p = 0
    · rw [if_neg (by omega)] at h
      by_cases ck : k = i
      · subst ck
        by_cases q : (pgt m k).sign ≤ 0
        · exact Int.sign_nonpos_iff.1 q
        · rw [if_neg q] at h; omega
      · exact hp p0 k (by omega)
    · rw [if_pos p0] at h; omega
  · dsimp only at h
    rw [ew] at h
    have mk := big_mk (hs i (by omega))
    rw [Int.toNat_natCast, show cgf s1 (270 + 4 * i) 2 = _ from mk] at h
    by_cases n0 : n = 0
    · rw [if_neg (by omega)] at h
      by_cases ck : k = i
      · subst ck
        by_cases q : 0 ≤ (pgt m k).sign
        · exact Int.sign_nonneg_iff.1 q
        · rw [if_neg q] at h; omega
      · exact hn n0 k (by omega)
    · rw [if_pos n0] at h; omega
