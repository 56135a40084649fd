/-! frames of find's pieces -/
theorem fd_ply {f : Nat} {s s' : im_S} {F : List Int} (of : opc f) (h : ply s f F) (fr : fdf s s') : ply s' f F := by
  unfold opc at of
  exact ply_fr h fr (by omega) (by omega)
theorem fd_dg {f : Nat} {s s' : im_S} (of : opc f) (fr : fdf s s') : s'.1 f 0 = s.1 f 0 := by
  unfold opc at of
  exact fr.1 _ _ (by omega)
theorem im_fd {s s' : im_S} (h : imfE s s') (hd : dI s) : fdf s s' := by
  have := dI_3 hd
  exact gfr_mono h (fun c k e => e.elim) (fun c e => by omega)
theorem gs_fd {s s' : im_S} (h : gsf s s') : fdf s s' := gfr_mono h (fun c k e => by omega) (fun c e => by omega)
theorem dv_fd {s s' : im_S} (h : dvf s s') : fdf s s' := gfr_mono h (fun c k e => by omega) (fun c e => by omega)
theorem py_fd {s s' : im_S} (h : pyf 255 s s') : fdf s s' := gfr_mono h (fun c k e => by omega) (fun c e => by omega)
theorem im_255 {s s' : im_S} {P : List Int} (h : imfE s s') (hd : dI s) (p : ply s 255 P) : ply s' 255 P := by
  have := dI_3 hd
  exact ply_fr p h (fun z => z) (by omega)
theorem im_dI {s s' : im_S} (h : imfE s s') (hd : dI s) : dI s' := dI_co hd h (fun z => z) (fun z => z)
theorem gs_dI {s s' : im_S} (h : gsf s s') (hd : dI s) : dI s' := dI_co hd h (by omega) (by omega)
theorem dv_dI {s s' : im_S} (h : dvf s s') (hd : dI s) : dI s' := dI_co hd h (by omega) (by omega)
theorem py_dI {s s' : im_S} (h : pyf 255 s s') (hd : dI s) : dI s' := dI_co hd h (by omega) (by omega)
theorem gs_255 {s s' : im_S} {P : List Int} (h : gsf s s') (p : ply s 255 P) : ply s' 255 P := ply_fr p h (by omega) (by omega)
theorem dv_ply {a : Nat} {s s' : im_S} {P : List Int} (h : dvf s s') (ha : a = 255 ∨ a = 253) (p : ply s a P) : ply s' a P := ply_fr p h (by omega) (by omega)
theorem im_k {s s' : im_S} (h : imfE s s') : s'.1 247 3 = s.1 247 3 ∧ s'.1 247 4 = s.1 247 4 := ⟨h.1 _ _ (fun z => z), h.1 _ _ (fun z => z)⟩
theorem gs_k {s s' : im_S} (h : gsf s s') : s'.1 247 3 = s.1 247 3 ∧ s'.1 247 4 = s.1 247 4 := ⟨h.1 _ _ (by omega), h.1 _ _ (by omega)⟩
theorem dv_k {s s' : im_S} (h : dvf s s') : s'.1 247 3 = s.1 247 3 ∧ s'.1 247 4 = s.1 247 4 := ⟨h.1 _ _ (by omega), h.1 _ _ (by omega)⟩
theorem py_k {s s' : im_S} (h : pyf 255 s s') : s'.1 247 3 = s.1 247 3 ∧ s'.1 247 4 = s.1 247 4 := ⟨h.1 _ _ (by omega), h.1 _ _ (by omega)⟩
theorem im_r4 {s s' : im_S} (h : imfE s s') (hd : dI s) (hn : s.1 247 3 ≠ s.1 247 4) : s'.2 (crf s 247 4) = s.2 (crf s 247 4) := by
  have a3 := hd.1
  have a4 := hd.2
  have e3 : crf s 247 3 = (s.1 247 3).toNat := rfl
  have e4 : crf s 247 4 = (s.1 247 4).toNat := rfl
  exact h.2 _ (by omega)
theorem gs_r {s s' : im_S} {c : Nat} (h : gsf s s') (hc : c = 251 ∨ c = 252) : s'.2 c = s.2 c := h.2 _ (by omega)
theorem dv_r {s s' : im_S} {c : Nat} (h : dvf s s') (hc : c = 251 ∨ c = 252) : s'.2 c = s.2 c := h.2 _ (by omega)
theorem opc_n {f : Nat} (h : opc f) : f ≠ 257 ∧ f ≠ 249 := by unfold opc at h; omega
theorem crf_k {s s' : im_S} {k : Nat} (h : s'.1 247 k = s.1 247 k) : crf s' 247 k = crf s 247 k := by show (s'.1 247 k).toNat = (s.1 247 k).toNat; rw [h]
/-- what is lucky: c, or nothing where the divisor is a number -/
def lkc (G F1 H1 : List Int) (c : Int) (u v : List Int) : Prop := ((∀ k, 1 ≤ k → pgt G k = 0) ∧ c = 0) ∨ (c ≠ 0 ∧ (c.natAbs : Int) < 2 ^ 681 ∧ ∀ x : Rat, (c : Rat) = pev u x * pev F1 x + pev v x * pev H1 x)
theorem lkc_2 {G F1 H1 u v : List Int} {c : Int} (h : lkc G F1 H1 c u v) (hn : ∀ t', t' + 1 < 44 → prmv t' ∣ c ∨ prmv (t' + 1) ∣ c) : ∀ k, 1 ≤ k → pgt G k = 0 := by
  rcases h with ⟨q, _⟩ | ⟨c0, cb, _⟩
  · exact q
  · obtain ⟨t', a1, a2, a3⟩ := two_lucky c0 cb
    rcases hn t' a1 with w | w
    · exact absurd w a2
    · exact absurd w a3
theorem lkc_l {G F1 H1 u v : List Int} {c : Int} (h : lkc G F1 H1 c u v) (t : Nat) (ht : ¬ prmv t ∣ c) : ∀ x : Rat, (c : Rat) = pev u x * pev F1 x + pev v x * pev H1 x := by
  rcases h with ⟨_, q⟩ | q
  · rw [q] at ht; exact absurd (Int.dvd_zero _) ht
  · exact q.2.2
/-- the loop's invariant: no two lucky primes side by side so far -/
def fdv (s : im_S) (F H : List Int) (c : Int) (a : Int × Int × im_S) : Prop := ply a.2.2 255 [1] ∧ dI a.2.2 ∧ a.2.2.1 247 3 ≠ a.2.2.1 247 4 ∧ fdf s a.2.2 ∧ ∃ t : Nat, a.2.1 = (t : Int) ∧ t ≤ 44 ∧ (t = 0 ∨ ∃ av, imS (prmv (t - 1)) F H a.1 av (a.2.2.2 (crf a.2.2 247 4))) ∧ ∀ t', t' + 1 < t → prmv t' ∣ c ∨ prmv (t' + 1) ∣ c
theorem fdv_next {s s' : im_S} {f h : Nat} {F H : List Int} {c d : Int} {a : Nat → Int} {t : Nat} {Q : im_S → Prop} (h' : ply s' 255 [1]) (d' : dI s') (n' : s'.1 247 3 ≠ s'.1 247 4) (f' : fdf s s') (t43 : t < 44) (him : imS (prmv t) F H d a (s'.2 (crf s' 247 3))) (hnl : ∀ t', t' + 1 < t → prmv t' ∣ c ∨ prmv (t' + 1) ∣ c) (nl : 1 ≤ t → prmv (t - 1) ∣ c ∨ prmv t ∣ c) : C_find2v_140 (fdv s F H c) f h (t : Int) d s' Q := by
  intro s8 e8 s9 e9
  have a3 := dI_3 d'
  have a4 := dI_4 d'
  have b3 := d'.1
  have b4 := d'.2
  have q3 : s9.1 247 3 = ((crf s' 247 4 : Nat) : Int) := by rw [e9, cpf_ne (by omega), e8, cpf_same]
  have q4 : s9.1 247 4 = ((crf s' 247 3 : Nat) : Int) := by rw [e9, cpf_same]
  have v3 : crf s' 247 3 = (s'.1 247 3).toNat := rfl
  have v4 : crf s' 247 4 = (s'.1 247 4).toNat := rfl
  refine ⟨?_, ?_, ?_, ?_, t + 1, w32s (by omega), by omega, Or.inr ⟨a, ?_⟩, fun t' ht => ?_⟩
  · subst e8; subst e9; exact ply_co h' rfl (by rw [cpf_ne (by omega), cpf_ne (by omega)])
  · exact ⟨by rw [q3]; omega, by rw [q4]; omega⟩
  · show s9.1 247 3 ≠ s9.1 247 4
    rw [q3, q4]; omega
  · subst e8; subst e9; exact gfr_pf (gfr_pf f' (by omega)) (by omega)
  · show imS (prmv (t + 1 - 1)) F H d a (s9.2 (crf s9 247 4))
    have k9 : crf s9 247 4 = crf s' 247 3 := by show (s9.1 247 4).toNat = _; rw [q4, Int.toNat_natCast]
    have r9 : s9.2 = s'.2 := by subst e8; subst e9; rfl
    rw [k9, r9, Nat.add_sub_cancel]
    exact him
  · by_cases q : t' + 1 < t
    · exact hnl t' q
    · have e : t' = t - 1 := by omega
      rw [e, show t - 1 + 1 = t by omega]
      exact nl (by omega)
/-- what rebuild has put together has the image's degree -/
theorem rb_deg {p q share d g0 : Int} (pp : ∀ a b : Int, p ∣ a * b → p ∣ a ∨ p ∣ b) {F H G' : List Int} {a E M R : Nat → Int} (h : imS p F H d a E) (hR : rbS p q share d E M R) (np : ¬ p ∣ share) (g00 : g0 ≠ 0) (eR : ∀ k, pgt (pmk 9 R) k = g0 * pgt G' k) : pgt G' d.toNat ≠ 0 ∧ pdb G' (d.toNat + 1) ∧ ∃ k, pgt (pmk 9 R) k ≠ 0 := by
  obtain ⟨d1, d8⟩ := h.1
  have Rd : ¬ p ∣ R d.toNat := fun z => by
    obtain ⟨r1, _⟩ := hR.1 d.toNat (by omega) (by omega)
    have it := im_top pp h
    refine np ?_
    obtain ⟨x1, y1⟩ := z
    obtain ⟨x2, y2⟩ := r1
    obtain ⟨x3, y3⟩ := it
    exact ⟨x1 - x2 - share * x3, by grind⟩
  have e9 : pgt (pmk 9 R) d.toNat = R d.toNat := by rw [pmk_gt, if_pos (by omega)]
  have Rn : R d.toNat ≠ 0 := fun z => Rd (by rw [z]; exact Int.dvd_zero _)
  refine ⟨fun z => Rn ?_, fun k hk => ?_, d.toNat, by rw [e9]; exact Rn⟩
  · rw [← e9, eR, z, Int.mul_zero]
  · have := eR k
    have z : pgt (pmk 9 R) k = 0 := by
      rw [pmk_gt]
      by_cases k9 : k < 9
      · rw [if_pos k9]; exact hR.2 k k9 (by omega)
      · rw [if_neg k9]
    rw [z] at this
    rcases Int.mul_eq_zero.1 this.symm with w | w
    · exact absurd w g00
    · exact w
/-- both primes lucky: both divisions go -/
theorem rb_both {p q : Int} (hp : prz p) (hq : prz q) (pp : ∀ a b : Int, p ∣ a * b → p ∣ a ∨ p ∣ b) (pq : ∀ a b : Int, q ∣ a * b → q ∣ a ∨ q ∣ b) (npq : ¬ q ∣ p) {F H G F1 H1 G' u v : List Int} {g fd : Nat} {c d share g0 lF lH : Int} {a b E M R : Nat → Int} (h : imS p F H d a E) (h' : imS q F H d b M) (l1 : ¬ p ∣ c) (l2 : ¬ q ∣ c) (eF : ∀ x : Rat, pev F x = pev G x * pev F1 x) (eH : ∀ x : Rat, pev H x = pev G x * pev H1 x) (cc : ∀ x : Rat, (c : Rat) = pev u x * pev F1 x + pev v x * pev H1 x) (pG : prm1 G) (hG : pdb G (g + 1)) (lG0 : pgt G g ≠ 0) (lp : ¬ p ∣ pgt G g) (lq : ¬ q ∣ pgt G g) (tF : lF = pgt G g * pgt F1 fd) (tH : pgt G g ∣ lH) (lFn : lF ≠ 0) (sd1 : share ∣ lF) (sgr : ∀ d : Int, d ∣ lF → d ∣ lH → d ∣ share) (shn : share ≠ 0) (hR : rbS p q share d E M R) (g00 : g0 ≠ 0) (eR : ∀ k, pgt (pmk 9 R) k = g0 * pgt G' k) (pG' : prm1 G') (hb : ∀ i j, (pgt G i * pgt F1 j).natAbs ≤ 1000000000000000 ∧ (pgt G i * pgt H1 j).natAbs ≤ 1000000000000000) : dvs F G' ∧ dvs H G' := by
  have gs : pgt G g ∣ share := sgr _ (by rw [tF]; exact Int.dvd_mul_right _ _) tH
  obtain ⟨sh, hsh⟩ := gs
  have shn' : sh ≠ 0 := fun z => shn (by rw [hsh, z, Int.mul_zero])
  have f0 : pgt F1 fd ≠ 0 := fun z => lFn (by rw [tF, z, Int.mul_zero])
  have sF : sh ∣ pgt F1 fd := by
    have : pgt G g * sh ∣ pgt G g * pgt F1 fd := by rw [← hsh, ← tF]; exact sd1
    exact Int.dvd_of_mul_dvd_mul_left lG0 this
  have sb : ∀ k, (sh * pgt G k).natAbs ≤ 1000000000000000 := fun k => by
    have a1 : sh.natAbs ≤ (pgt F1 fd).natAbs := Nat.le_of_dvd (by omega) (Int.natAbs_dvd_natAbs.2 sF)
    have a2 := (hb k fd).1
    rw [Int.natAbs_mul] at a2 ⊢
    have := Nat.mul_le_mul_right (pgt G k).natAbs a1
    rw [Nat.mul_comm (pgt G k).natAbs] at a2
    omega
  have p1 := hp.1
  have q1 := hq.1
  have ppq : (2000000000 : Int) * 2000000000 ≤ p * q := Int.le_trans (Int.mul_le_mul_of_nonneg_right p1 (by decide)) (Int.mul_le_mul_of_nonneg_left q1 (by omega))
  obtain ⟨_, key⟩ := rb_lucky pp pq npq (by omega) (by omega) h h' l1 l2 eF eH cc hG lp lq hsh hR (fun k => by have := sb k; omega)
  have pm := prm_pm pG pG' g00 shn' (fun k => by rw [← key k, eR k])
  have b1 : ∀ j, (pgt F1 j).natAbs ≤ 288230376151711744 ∧ (pgt H1 j).natAbs ≤ 288230376151711744 := fun j => by
    have a1 := hb g j
    rw [Int.natAbs_mul, Int.natAbs_mul] at a1
    have gp : 1 ≤ (pgt G g).natAbs := by omega
    have m1 := Nat.mul_le_mul_right (pgt F1 j).natAbs gp
    have m2 := Nat.mul_le_mul_right (pgt H1 j).natAbs gp
    omega
  exact ⟨dvs_pm eF pm (fun i j => by have := (hb i j).1; omega) (fun j => (b1 j).1), dvs_pm eH pm (fun i j => by have := (hb i j).2; omega) (fun j => (b1 j).2)⟩
