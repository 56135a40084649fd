/-! HOW LARGE THE FACTORS OF A POLYNOMIAL ARE, finer: by its values at 0, 1, -1, 2, .. -4, its zeros there taken out -/
theorem ptop : ∀ K : List Int, (∃ k, pgt K k ≠ 0) → ∃ k, pgt K k ≠ 0 ∧ pdb K (k + 1) := by
  intro K h
  obtain ⟨j, hj⟩ := h
  have go : ∀ n : Nat, pdb K n → ∃ k, pgt K k ≠ 0 ∧ pdb K (k + 1) := by
    intro n
    induction n with
    | zero => intro z; exact absurd (z j (by omega)) hj
    | succ n ih =>
      intro z
      by_cases c : pgt K n = 0
      · refine ih (fun k hk => ?_)
        by_cases e : k = n
        · subst e; exact c
        · exact z k (by omega)
      · exact ⟨n, c, z⟩
  exact go K.length (pdb_len K)
theorem dv_deg {A K F : List Int} {n : Nat} (e : ∀ x : Rat, pev F x = pev A x * pev K x) (h0 : ∃ k, pgt F k ≠ 0) (hF : pdb F n) : pdb A n := by
  by_cases hK : ∃ k, pgt K k ≠ 0
  · obtain ⟨k, k0, kt⟩ := ptop K hK
    by_cases c : k ≤ n
    · exact pdb_mono (dcan (j := n - k) (T := F) (fun x => (e x).symm) kt k0 (by rw [show k + (n - k) = n by omega]; exact hF)) (by omega)
    · exact pdb_mono (dcan (j := 0) (T := F) (fun x => (e x).symm) kt k0 (pdb_mono hF (by omega))) (by omega)
  · obtain ⟨k, k0⟩ := h0
    refine absurd ?_ k0
    refine pev_zero (fun x => ?_) k
    rw [e x, pev_eq (P := K) (R := []) (fun j => Classical.byContradiction fun c => hK ⟨j, c⟩) x]
    show _ * (0 : Rat) = 0
    grind
theorem psd_root {F : List Int} {p : Int} (h : phv p F = 0) (x : Rat) : pev F x = (x - p) * pev (psd p F) x := by
  rw [psd_ev p x F, h, rat_i0]; grind
theorem ev_cancel {G H : List Int} {p : Int} (h : ∀ x : Rat, (x - p) * pev G x = (x - p) * pev H x) (x : Rat) : pev G x = pev H x := by
  refine pev_eq (fun k => ?_) x
  have z := pev_roots (padd G (psm (-1) H)).length (padd G (psm (-1) H)) (fun i => p + 1 + i) (Nat.le_refl _) (fun i j _ _ e => by omega) (fun i _ => ?_) k
  · rw [padd_gt, psm_gt] at z; omega
  · rw [padd_ev, psm_ev]
    have q := h ((p + 1 + i : Int) : Rat)
    have ne : (((p + 1 + i : Int) : Rat) - p) ≠ 0 := fun c => by
      have : ((p + 1 + i : Int) : Rat) = p := by grind
      have := Rat.intCast_inj.1 this
      omega
    have q2 : (((p + 1 + i : Int) : Rat) - p) * (pev G ((p + 1 + i : Int) : Rat) - pev H ((p + 1 + i : Int) : Rat)) = 0 := by grind
    rcases Rat.mul_eq_zero.1 q2 with u | u
    · exact absurd u ne
    · have : ((-1 : Int) : Rat) = -1 := rfl
      rw [this]; grind
theorem psd_bd {F : List Int} {p : Int} {n H : Nat} (h : phv p F = 0) (hF : pdb F (n + 2)) (HF : pab F H) (k : Nat) : (max p.natAbs 1) * (pgt (psd p F) k).natAbs ≤ (n + 1) * H := by
  have c := psd_c0 p F
  rw [h] at c
  have hd : pdb (psd p F) (n + 1) := dcan (A := [-p, 1]) (T := F) (a := 1) (fun x => by
    rw [psd_root h x]
    show _ * (((-p : Int) : Rat) + x * (((1 : Int) : Rat) + x * 0)) = _
    rw [Rat.intCast_neg, rat_i1]; grind) (pdb_len _) (by show (1 : Int) ≠ 0; omega) (by rw [show 1 + (n + 1) = n + 2 by omega]; exact hF)
  by_cases ck : n + 1 ≤ k
  · rw [hd k ck]; show _ * (0 : Int).natAbs ≤ _; simp
  · by_cases p0 : p = 0
    · subst p0
      have e := c.2 k
      have b := HF (k + 1)
      rw [Int.zero_mul, Int.sub_zero] at e
      rw [← e]
      show 1 * _ ≤ _
      have : 1 * H ≤ (n + 1) * H := Nat.mul_le_mul_right _ (by omega)
      omega
    · rw [show max p.natAbs 1 = p.natAbs by omega]
      have go : ∀ k : Nat, p.natAbs * (pgt (psd p F) k).natAbs ≤ (k + 1) * H := by
        intro k
        induction k with
        | zero =>
          have b := HF 0
          have e := c.1
          rw [← Int.natAbs_mul]
          have : p * pgt (psd p F) 0 = - pgt F 0 := by omega
          rw [this]; omega
        | succ k ih =>
          have b := HF (k + 1)
          have e := c.2 k
          rw [← Int.natAbs_mul]
          have e2 : p * pgt (psd p F) (k + 1) = pgt (psd p F) k - pgt F (k + 1) := by omega
          rw [e2]
          have m : 1 * (pgt (psd p F) k).natAbs ≤ p.natAbs * (pgt (psd p F) k).natAbs := Nat.mul_le_mul_right _ (by omega)
          have : (k + 1 + 1) * H = (k + 1) * H + H := Nat.succ_mul _ _
          omega
      exact Nat.le_trans (go k) (Nat.mul_le_mul_right _ (by omega))
/-- what is said of degree n -/
def fbn (n K : Nat) : Prop := ∀ (F A Q : List Int) (H : Nat), (∀ x : Rat, pev F x = pev A x * pev Q x) → pdb F (n + 1) → (∃ k, pgt F k ≠ 0) → pab F H → pab A (K * H)
theorem fb_peel {n K : Nat} (ih : fbn n K) {F A Q : List Int} {H : Nat} {p : Int} (e : ∀ x : Rat, pev F x = pev A x * pev Q x) (hF : pdb F (n + 2)) (h0 : ∃ k, pgt F k ≠ 0) (HF : pab F H) (hp : phv p F = 0) : pab A (2 * (n + 1) * K * H) := by
  have hd : pdb (psd p F) (n + 1) := dcan (A := [-p, 1]) (T := F) (a := 1) (fun x => by
    rw [psd_root hp x]
    show _ * (((-p : Int) : Rat) + x * (((1 : Int) : Rat) + x * 0)) = _
    rw [Rat.intCast_neg, rat_i1]; grind) (pdb_len _) (by show (1 : Int) ≠ 0; omega) (by rw [show 1 + (n + 1) = n + 2 by omega]; exact hF)
  have h0' : ∃ k, pgt (psd p F) k ≠ 0 := Classical.byContradiction fun c => by
    obtain ⟨k, k0⟩ := h0
    refine k0 (pev_zero (fun x => ?_) k)
    rw [psd_root hp x, pev_eq (P := psd p F) (R := []) (fun j => Classical.byContradiction fun z => c ⟨j, z⟩) x]
    show _ * (0 : Rat) = 0
    grind
  obtain ⟨m, hm⟩ : ∃ m, m = max p.natAbs 1 := ⟨_, rfl⟩
  have m1 : 1 ≤ m := by omega
  have mp : p.natAbs ≤ m := by omega
  obtain ⟨X, hX⟩ : ∃ X, X = (n + 1) * H / m := ⟨_, rfl⟩
  have Xb : pab (psd p F) X := fun k => by
    rw [hX, Nat.le_div_iff_mul_le (by omega), Nat.mul_comm, hm]
    exact psd_bd hp hF HF k
  have Xm : m * X ≤ (n + 1) * H := by rw [hX, Nat.mul_comm]; exact Nat.div_mul_le_self _ _
  have pq : phv p A = 0 ∨ phv p Q = 0 := by
    have z := e (p : Rat)
    rw [phv_ev, phv_ev, phv_ev, hp, ← Rat.intCast_mul] at z
    exact Int.mul_eq_zero.1 (Rat.intCast_inj.1 z).symm
  have fin : 2 * (m * (K * X)) ≤ 2 * (n + 1) * K * H := by
    have : 2 * (K * (m * X)) ≤ 2 * (K * ((n + 1) * H)) := Nat.mul_le_mul_left _ (Nat.mul_le_mul_left _ Xm)
    have e1 : 2 * (m * (K * X)) = 2 * (K * (m * X)) := by grind
    have e2 : 2 * (n + 1) * K * H = 2 * (K * ((n + 1) * H)) := by grind
    omega
  rcases pq with q | q
  · have b := ih (psd p F) (psd p A) Q X (fun x => by
      rw [← pmul_ev]
      refine ev_cancel (p := p) (fun x => ?_) x
      rw [← psd_root hp x, e x, psd_root q x, pmul_ev]; grind) hd h0' Xb
    have c := psd_c0 p A
    rw [q] at c
    intro k
    have mb : ∀ j, (p * pgt (psd p A) j).natAbs ≤ m * (K * X) := fun j => by
      rw [Int.natAbs_mul]; exact Nat.mul_le_mul mp (b j)
    have ob : 1 * (K * X) ≤ m * (K * X) := Nat.mul_le_mul_right _ m1
    cases k with
    | zero => have := c.1; have := mb 0; omega
    | succ k => have := c.2 k; have := mb (k + 1); have := b k; omega
  · have b := ih (psd p F) A (psd p Q) X (fun x => by
      rw [← pmul_ev]
      refine ev_cancel (p := p) (fun x => ?_) x
      rw [← psd_root hp x, e x, psd_root q x, pmul_ev]; grind) hd h0' Xb
    intro k
    have := b k
    have ob : 1 * (K * X) ≤ m * (K * X) := Nat.mul_le_mul_right _ m1
    omega
theorem fb_val {F A Q : List Int} {p : Int} (e : ∀ x : Rat, pev F x = pev A x * pev Q x) (h : phv p F ≠ 0) : (phv p A).natAbs ≤ (phv p F).natAbs := by
  have z := e (p : Rat)
  rw [phv_ev, phv_ev, phv_ev, ← Rat.intCast_mul] at z
  have z2 := Rat.intCast_inj.1 z
  rw [z2, Int.natAbs_mul]
  refine Nat.le_mul_of_pos_right _ ?_
  rcases Nat.eq_zero_or_pos (phv p Q).natAbs with q | q
  · rw [z2, Int.natAbs_eq_zero.1 q, Int.mul_zero] at h
    exact absurd rfl h
  · exact q
theorem phv_pad {P : List Int} {n : Nat} (h : pdb P n) (p : Int) : phv p P = phv p (pmk n (pgt P)) := by
  refine Rat.intCast_inj.1 ?_
  rw [← phv_ev, ← phv_ev, pdb_ev h]
theorem nat_le {a b M : Int} (w : a.natAbs ≤ b.natAbs) (u : -M ≤ b ∧ b ≤ M) : -M ≤ a ∧ a ≤ M := by omega
theorem fb_0 : fbn 0 1 := by
  intro F A Q H e hF h0 HF
  have hA := dv_deg e h0 hF
  have nz : phv 0 F ≠ 0 := fun z => by
    obtain ⟨k, k0⟩ := h0
    rw [phv_pad hF] at z
    have z' : pgt F 0 + 0 * 0 = 0 := z
    refine k0 ?_
    cases k with
    | zero => omega
    | succ k => exact hF _ (by omega)
  have v := fb_val e nz
  rw [phv_pad hF, phv_pad hA] at v
  have v' : (pgt A 0 + 0 * 0).natAbs ≤ (pgt F 0 + 0 * 0).natAbs := v
  intro k
  cases k with
  | zero => have := HF 0; omega
  | succ k => rw [hA _ (by omega)]; show (0 : Int).natAbs ≤ _; omega

theorem fb_lag1 {f : Nat → Int} {H : Int} (h0 : -(1 * H) ≤ phv (0) (pmk 2 f) ∧ phv (0) (pmk 2 f) ≤ 1 * H) (h1 : -(2 * H) ≤ phv (1) (pmk 2 f) ∧ phv (1) (pmk 2 f) ≤ 2 * H) (H0 : 0 ≤ H) : ∀ k, k < 2 → -(3 * H) ≤ f k ∧ f k ≤ 3 * H := by
  obtain ⟨V0, v0⟩ : ∃ V, V = phv (0) (pmk 2 f) := ⟨_, rfl⟩
  rw [← v0] at h0
  have v0' : V0 = (f 0 + (0) * (f 1 + (0) * 0)) := v0
  obtain ⟨V1, v1⟩ : ∃ V, V = phv (1) (pmk 2 f) := ⟨_, rfl⟩
  rw [← v1] at h1
  have v1' : V1 = (f 0 + (1) * (f 1 + (1) * 0)) := v1
  clear v0 v1
  intro k hk
  have : k = 0 ∨ k = 1 := by omega
  rcases this with q | q <;> subst q
  · have e : 1 * f 0 = (1) * V0 := by omega
    clear v0' v1'
    omega
  · have e : 1 * f 1 = (-1) * V0 + (1) * V1 := by omega
    clear v0' v1'
    omega
theorem fb_up1 {f : Nat → Int} {H : Int} (h : ∀ k, -H ≤ f k ∧ f k ≤ H) : (-(1 * H) ≤ phv (0) (pmk 2 f) ∧ phv (0) (pmk 2 f) ≤ 1 * H) ∧ (-(2 * H) ≤ phv (1) (pmk 2 f) ∧ phv (1) (pmk 2 f) ≤ 2 * H) := by
  have g0 := h 0
  have g1 := h 1
  clear h
  refine ⟨?_, ?_⟩
  · have u : phv (0) (pmk 2 f) = (f 0 + (0) * (f 1 + (0) * 0)) := rfl
    rw [u]; clear u; omega
  · have u : phv (1) (pmk 2 f) = (f 0 + (1) * (f 1 + (1) * 0)) := rfl
    rw [u]; clear u; omega
theorem fb_1 : fbn 1 3 := by
  intro F A Q H e hF h0 HF
  have hA := dv_deg e h0 hF
  have pl : ∀ p : Int, phv p F = 0 → pab A (3 * H) := fun p hp k => Nat.le_trans (fb_peel fb_0 e hF h0 HF hp k) (Nat.mul_le_mul_right _ (by decide))
  by_cases c0 : phv (0) F = 0
  · exact pl _ c0
  by_cases c1 : phv (1) F = 0
  · exact pl _ c1
  have w0 := fb_val e c0
  rw [phv_pad (n := 2) hF, phv_pad (n := 2) hA] at w0
  have w1 := fb_val e c1
  rw [phv_pad (n := 2) hF, phv_pad (n := 2) hA] at w1
  have U := fb_up1 (f := pgt F) (H := (H : Int)) (fun k => by have := HF k; omega)
  have L := fb_lag1 (f := pgt A) (H := (H : Int)) (nat_le w0 U.1) (nat_le w1 U.2) (by omega)
  intro k
  by_cases c : k < 2
  · have := L k c; omega
  · rw [hA k (by omega)]; show (0 : Int).natAbs ≤ _; omega
theorem fb_lag2 {f : Nat → Int} {H : Int} (h0 : -(1 * H) ≤ phv (0) (pmk 3 f) ∧ phv (0) (pmk 3 f) ≤ 1 * H) (h1 : -(3 * H) ≤ phv (1) (pmk 3 f) ∧ phv (1) (pmk 3 f) ≤ 3 * H) (h2 : -(3 * H) ≤ phv (-1) (pmk 3 f) ∧ phv (-1) (pmk 3 f) ≤ 3 * H) (H0 : 0 ≤ H) : ∀ k, k < 3 → -(12 * H) ≤ f k ∧ f k ≤ 12 * H := by
  obtain ⟨V0, v0⟩ : ∃ V, V = phv (0) (pmk 3 f) := ⟨_, rfl⟩
  rw [← v0] at h0
  have v0' : V0 = (f 0 + (0) * (f 1 + (0) * (f 2 + (0) * 0))) := v0
  obtain ⟨V1, v1⟩ : ∃ V, V = phv (1) (pmk 3 f) := ⟨_, rfl⟩
  rw [← v1] at h1
  have v1' : V1 = (f 0 + (1) * (f 1 + (1) * (f 2 + (1) * 0))) := v1
  obtain ⟨V2, v2⟩ : ∃ V, V = phv (-1) (pmk 3 f) := ⟨_, rfl⟩
  rw [← v2] at h2
  have v2' : V2 = (f 0 + (-1) * (f 1 + (-1) * (f 2 + (-1) * 0))) := v2
  clear v0 v1 v2
  intro k hk
  have : k = 0 ∨ k = 1 ∨ k = 2 := by omega
  rcases this with q | q | q <;> subst q
  · have e : 1 * f 0 = (1) * V0 := by omega
    clear v0' v1' v2'
    omega
  · have e : 2 * f 1 = (1) * V1 + (-1) * V2 := by omega
    clear v0' v1' v2'
    omega
  · have e : 2 * f 2 = (-2) * V0 + (1) * V1 + (1) * V2 := by omega
    clear v0' v1' v2'
    omega
theorem fb_up2 {f : Nat → Int} {H : Int} (h : ∀ k, -H ≤ f k ∧ f k ≤ H) : (-(1 * H) ≤ phv (0) (pmk 3 f) ∧ phv (0) (pmk 3 f) ≤ 1 * H) ∧ (-(3 * H) ≤ phv (1) (pmk 3 f) ∧ phv (1) (pmk 3 f) ≤ 3 * H) ∧ (-(3 * H) ≤ phv (-1) (pmk 3 f) ∧ phv (-1) (pmk 3 f) ≤ 3 * H) := by
  have g0 := h 0
  have g1 := h 1
  have g2 := h 2
  clear h
  refine ⟨?_, ?_, ?_⟩
  · have u : phv (0) (pmk 3 f) = (f 0 + (0) * (f 1 + (0) * (f 2 + (0) * 0))) := rfl
    rw [u]; clear u; omega
  · have u : phv (1) (pmk 3 f) = (f 0 + (1) * (f 1 + (1) * (f 2 + (1) * 0))) := rfl
    rw [u]; clear u; omega
  · have u : phv (-1) (pmk 3 f) = (f 0 + (-1) * (f 1 + (-1) * (f 2 + (-1) * 0))) := rfl
    rw [u]; clear u; omega
theorem fb_2 : fbn 2 12 := by
  intro F A Q H e hF h0 HF
  have hA := dv_deg e h0 hF
  have pl : ∀ p : Int, phv p F = 0 → pab A (12 * H) := fun p hp k => Nat.le_trans (fb_peel fb_1 e hF h0 HF hp k) (Nat.mul_le_mul_right _ (by decide))
  by_cases c0 : phv (0) F = 0
  · exact pl _ c0
  by_cases c1 : phv (1) F = 0
  · exact pl _ c1
  by_cases c2 : phv (-1) F = 0
  · exact pl _ c2
  have w0 := fb_val e c0
  rw [phv_pad (n := 3) hF, phv_pad (n := 3) hA] at w0
  have w1 := fb_val e c1
  rw [phv_pad (n := 3) hF, phv_pad (n := 3) hA] at w1
  have w2 := fb_val e c2
  rw [phv_pad (n := 3) hF, phv_pad (n := 3) hA] at w2
  have U := fb_up2 (f := pgt F) (H := (H : Int)) (fun k => by have := HF k; omega)
  have L := fb_lag2 (f := pgt A) (H := (H : Int)) (nat_le w0 U.1) (nat_le w1 U.2.1) (nat_le w2 U.2.2) (by omega)
  intro k
  by_cases c : k < 3
  · have := L k c; omega
  · rw [hA k (by omega)]; show (0 : Int).natAbs ≤ _; omega
theorem fb_lag3 {f : Nat → Int} {H : Int} (h0 : -(1 * H) ≤ phv (0) (pmk 4 f) ∧ phv (0) (pmk 4 f) ≤ 1 * H) (h1 : -(4 * H) ≤ phv (1) (pmk 4 f) ∧ phv (1) (pmk 4 f) ≤ 4 * H) (h2 : -(4 * H) ≤ phv (-1) (pmk 4 f) ∧ phv (-1) (pmk 4 f) ≤ 4 * H) (h3 : -(15 * H) ≤ phv (2) (pmk 4 f) ∧ phv (2) (pmk 4 f) ≤ 15 * H) (H0 : 0 ≤ H) : ∀ k, k < 4 → -(72 * H) ≤ f k ∧ f k ≤ 72 * H := by
  obtain ⟨V0, v0⟩ : ∃ V, V = phv (0) (pmk 4 f) := ⟨_, rfl⟩
  rw [← v0] at h0
  have v0' : V0 = (f 0 + (0) * (f 1 + (0) * (f 2 + (0) * (f 3 + (0) * 0)))) := v0
  obtain ⟨V1, v1⟩ : ∃ V, V = phv (1) (pmk 4 f) := ⟨_, rfl⟩
  rw [← v1] at h1
  have v1' : V1 = (f 0 + (1) * (f 1 + (1) * (f 2 + (1) * (f 3 + (1) * 0)))) := v1
  obtain ⟨V2, v2⟩ : ∃ V, V = phv (-1) (pmk 4 f) := ⟨_, rfl⟩
  rw [← v2] at h2
  have v2' : V2 = (f 0 + (-1) * (f 1 + (-1) * (f 2 + (-1) * (f 3 + (-1) * 0)))) := v2
  obtain ⟨V3, v3⟩ : ∃ V, V = phv (2) (pmk 4 f) := ⟨_, rfl⟩
  rw [← v3] at h3
  have v3' : V3 = (f 0 + (2) * (f 1 + (2) * (f 2 + (2) * (f 3 + (2) * 0)))) := v3
  clear v0 v1 v2 v3
  intro k hk
  have : k = 0 ∨ k = 1 ∨ k = 2 ∨ k = 3 := by omega
  rcases this with q | q | q | q <;> subst q
  · have e : 1 * f 0 = (1) * V0 := by omega
    clear v0' v1' v2' v3'
    omega
  · have e : 6 * f 1 = (-3) * V0 + (6) * V1 + (-2) * V2 + (-1) * V3 := by omega
    clear v0' v1' v2' v3'
    omega
  · have e : 2 * f 2 = (-2) * V0 + (1) * V1 + (1) * V2 := by omega
    clear v0' v1' v2' v3'
    omega
  · have e : 6 * f 3 = (3) * V0 + (-3) * V1 + (-1) * V2 + (1) * V3 := by omega
    clear v0' v1' v2' v3'
    omega
theorem fb_up3 {f : Nat → Int} {H : Int} (h : ∀ k, -H ≤ f k ∧ f k ≤ H) : (-(1 * H) ≤ phv (0) (pmk 4 f) ∧ phv (0) (pmk 4 f) ≤ 1 * H) ∧ (-(4 * H) ≤ phv (1) (pmk 4 f) ∧ phv (1) (pmk 4 f) ≤ 4 * H) ∧ (-(4 * H) ≤ phv (-1) (pmk 4 f) ∧ phv (-1) (pmk 4 f) ≤ 4 * H) ∧ (-(15 * H) ≤ phv (2) (pmk 4 f) ∧ phv (2) (pmk 4 f) ≤ 15 * H) := by
  have g0 := h 0
  have g1 := h 1
  have g2 := h 2
  have g3 := h 3
  clear h
  refine ⟨?_, ?_, ?_, ?_⟩
  · have u : phv (0) (pmk 4 f) = (f 0 + (0) * (f 1 + (0) * (f 2 + (0) * (f 3 + (0) * 0)))) := rfl
    rw [u]; clear u; omega
  · have u : phv (1) (pmk 4 f) = (f 0 + (1) * (f 1 + (1) * (f 2 + (1) * (f 3 + (1) * 0)))) := rfl
    rw [u]; clear u; omega
  · have u : phv (-1) (pmk 4 f) = (f 0 + (-1) * (f 1 + (-1) * (f 2 + (-1) * (f 3 + (-1) * 0)))) := rfl
    rw [u]; clear u; omega
  · have u : phv (2) (pmk 4 f) = (f 0 + (2) * (f 1 + (2) * (f 2 + (2) * (f 3 + (2) * 0)))) := rfl
    rw [u]; clear u; omega
theorem fb_3 : fbn 3 72 := by
  intro F A Q H e hF h0 HF
  have hA := dv_deg e h0 hF
  have pl : ∀ p : Int, phv p F = 0 → pab A (72 * H) := fun p hp k => Nat.le_trans (fb_peel fb_2 e hF h0 HF hp k) (Nat.mul_le_mul_right _ (by decide))
  by_cases c0 : phv (0) F = 0
  · exact pl _ c0
  by_cases c1 : phv (1) F = 0
  · exact pl _ c1
  by_cases c2 : phv (-1) F = 0
  · exact pl _ c2
  by_cases c3 : phv (2) F = 0
  · exact pl _ c3
  have w0 := fb_val e c0
  rw [phv_pad (n := 4) hF, phv_pad (n := 4) hA] at w0
  have w1 := fb_val e c1
  rw [phv_pad (n := 4) hF, phv_pad (n := 4) hA] at w1
  have w2 := fb_val e c2
  rw [phv_pad (n := 4) hF, phv_pad (n := 4) hA] at w2
  have w3 := fb_val e c3
  rw [phv_pad (n := 4) hF, phv_pad (n := 4) hA] at w3
  have U := fb_up3 (f := pgt F) (H := (H : Int)) (fun k => by have := HF k; omega)
  have L := fb_lag3 (f := pgt A) (H := (H : Int)) (nat_le w0 U.1) (nat_le w1 U.2.1) (nat_le w2 U.2.2.1) (nat_le w3 U.2.2.2) (by omega)
  intro k
  by_cases c : k < 4
  · have := L k c; omega
  · rw [hA k (by omega)]; show (0 : Int).natAbs ≤ _; omega
theorem fb_lag4 {f : Nat → Int} {H : Int} (h0 : -(1 * H) ≤ phv (0) (pmk 5 f) ∧ phv (0) (pmk 5 f) ≤ 1 * H) (h1 : -(5 * H) ≤ phv (1) (pmk 5 f) ∧ phv (1) (pmk 5 f) ≤ 5 * H) (h2 : -(5 * H) ≤ phv (-1) (pmk 5 f) ∧ phv (-1) (pmk 5 f) ≤ 5 * H) (h3 : -(31 * H) ≤ phv (2) (pmk 5 f) ∧ phv (2) (pmk 5 f) ≤ 31 * H) (h4 : -(31 * H) ≤ phv (-2) (pmk 5 f) ∧ phv (-2) (pmk 5 f) ≤ 31 * H) (H0 : 0 ≤ H) : ∀ k, k < 5 → -(576 * H) ≤ f k ∧ f k ≤ 576 * H := by
  obtain ⟨V0, v0⟩ : ∃ V, V = phv (0) (pmk 5 f) := ⟨_, rfl⟩
  rw [← v0] at h0
  have v0' : V0 = (f 0 + (0) * (f 1 + (0) * (f 2 + (0) * (f 3 + (0) * (f 4 + (0) * 0))))) := v0
  obtain ⟨V1, v1⟩ : ∃ V, V = phv (1) (pmk 5 f) := ⟨_, rfl⟩
  rw [← v1] at h1
  have v1' : V1 = (f 0 + (1) * (f 1 + (1) * (f 2 + (1) * (f 3 + (1) * (f 4 + (1) * 0))))) := v1
  obtain ⟨V2, v2⟩ : ∃ V, V = phv (-1) (pmk 5 f) := ⟨_, rfl⟩
  rw [← v2] at h2
  have v2' : V2 = (f 0 + (-1) * (f 1 + (-1) * (f 2 + (-1) * (f 3 + (-1) * (f 4 + (-1) * 0))))) := v2
  obtain ⟨V3, v3⟩ : ∃ V, V = phv (2) (pmk 5 f) := ⟨_, rfl⟩
  rw [← v3] at h3
  have v3' : V3 = (f 0 + (2) * (f 1 + (2) * (f 2 + (2) * (f 3 + (2) * (f 4 + (2) * 0))))) := v3
  obtain ⟨V4, v4⟩ : ∃ V, V = phv (-2) (pmk 5 f) := ⟨_, rfl⟩
  rw [← v4] at h4
  have v4' : V4 = (f 0 + (-2) * (f 1 + (-2) * (f 2 + (-2) * (f 3 + (-2) * (f 4 + (-2) * 0))))) := v4
  clear v0 v1 v2 v3 v4
  intro k hk
  have : k = 0 ∨ k = 1 ∨ k = 2 ∨ k = 3 ∨ k = 4 := by omega
  rcases this with q | q | q | q | q <;> subst q
  · have e : 1 * f 0 = (1) * V0 := by omega
    clear v0' v1' v2' v3' v4'
    omega
  · have e : 12 * f 1 = (8) * V1 + (-8) * V2 + (-1) * V3 + (1) * V4 := by omega
    clear v0' v1' v2' v3' v4'
    omega
  · have e : 24 * f 2 = (-30) * V0 + (16) * V1 + (16) * V2 + (-1) * V3 + (-1) * V4 := by omega
    clear v0' v1' v2' v3' v4'
    omega
  · have e : 12 * f 3 = (-2) * V1 + (2) * V2 + (1) * V3 + (-1) * V4 := by omega
    clear v0' v1' v2' v3' v4'
    omega
  · have e : 24 * f 4 = (6) * V0 + (-4) * V1 + (-4) * V2 + (1) * V3 + (1) * V4 := by omega
    clear v0' v1' v2' v3' v4'
    omega
theorem fb_up4 {f : Nat → Int} {H : Int} (h : ∀ k, -H ≤ f k ∧ f k ≤ H) : (-(1 * H) ≤ phv (0) (pmk 5 f) ∧ phv (0) (pmk 5 f) ≤ 1 * H) ∧ (-(5 * H) ≤ phv (1) (pmk 5 f) ∧ phv (1) (pmk 5 f) ≤ 5 * H) ∧ (-(5 * H) ≤ phv (-1) (pmk 5 f) ∧ phv (-1) (pmk 5 f) ≤ 5 * H) ∧ (-(31 * H) ≤ phv (2) (pmk 5 f) ∧ phv (2) (pmk 5 f) ≤ 31 * H) ∧ (-(31 * H) ≤ phv (-2) (pmk 5 f) ∧ phv (-2) (pmk 5 f) ≤ 31 * H) := by
  have g0 := h 0
  have g1 := h 1
  have g2 := h 2
  have g3 := h 3
  have g4 := h 4
  clear h
  refine ⟨?_, ?_, ?_, ?_, ?_⟩
  · have u : phv (0) (pmk 5 f) = (f 0 + (0) * (f 1 + (0) * (f 2 + (0) * (f 3 + (0) * (f 4 + (0) * 0))))) := rfl
    rw [u]; clear u; omega
  · have u : phv (1) (pmk 5 f) = (f 0 + (1) * (f 1 + (1) * (f 2 + (1) * (f 3 + (1) * (f 4 + (1) * 0))))) := rfl
    rw [u]; clear u; omega
  · have u : phv (-1) (pmk 5 f) = (f 0 + (-1) * (f 1 + (-1) * (f 2 + (-1) * (f 3 + (-1) * (f 4 + (-1) * 0))))) := rfl
    rw [u]; clear u; omega
  · have u : phv (2) (pmk 5 f) = (f 0 + (2) * (f 1 + (2) * (f 2 + (2) * (f 3 + (2) * (f 4 + (2) * 0))))) := rfl
    rw [u]; clear u; omega
  · have u : phv (-2) (pmk 5 f) = (f 0 + (-2) * (f 1 + (-2) * (f 2 + (-2) * (f 3 + (-2) * (f 4 + (-2) * 0))))) := rfl
    rw [u]; clear u; omega
theorem fb_4 : fbn 4 576 := by
  intro F A Q H e hF h0 HF
  have hA := dv_deg e h0 hF
  have pl : ∀ p : Int, phv p F = 0 → pab A (576 * H) := fun p hp k => Nat.le_trans (fb_peel fb_3 e hF h0 HF hp k) (Nat.mul_le_mul_right _ (by decide))
  by_cases c0 : phv (0) F = 0
  · exact pl _ c0
  by_cases c1 : phv (1) F = 0
  · exact pl _ c1
  by_cases c2 : phv (-1) F = 0
  · exact pl _ c2
  by_cases c3 : phv (2) F = 0
  · exact pl _ c3
  by_cases c4 : phv (-2) F = 0
  · exact pl _ c4
  have w0 := fb_val e c0
  rw [phv_pad (n := 5) hF, phv_pad (n := 5) hA] at w0
  have w1 := fb_val e c1
  rw [phv_pad (n := 5) hF, phv_pad (n := 5) hA] at w1
  have w2 := fb_val e c2
  rw [phv_pad (n := 5) hF, phv_pad (n := 5) hA] at w2
  have w3 := fb_val e c3
  rw [phv_pad (n := 5) hF, phv_pad (n := 5) hA] at w3
  have w4 := fb_val e c4
  rw [phv_pad (n := 5) hF, phv_pad (n := 5) hA] at w4
  have U := fb_up4 (f := pgt F) (H := (H : Int)) (fun k => by have := HF k; omega)
  have L := fb_lag4 (f := pgt A) (H := (H : Int)) (nat_le w0 U.1) (nat_le w1 U.2.1) (nat_le w2 U.2.2.1) (nat_le w3 U.2.2.2.1) (nat_le w4 U.2.2.2.2) (by omega)
  intro k
  by_cases c : k < 5
  · have := L k c; omega
  · rw [hA k (by omega)]; show (0 : Int).natAbs ≤ _; omega
theorem fb_lag5 {f : Nat → Int} {H : Int} (h0 : -(1 * H) ≤ phv (0) (pmk 6 f) ∧ phv (0) (pmk 6 f) ≤ 1 * H) (h1 : -(6 * H) ≤ phv (1) (pmk 6 f) ∧ phv (1) (pmk 6 f) ≤ 6 * H) (h2 : -(6 * H) ≤ phv (-1) (pmk 6 f) ∧ phv (-1) (pmk 6 f) ≤ 6 * H) (h3 : -(63 * H) ≤ phv (2) (pmk 6 f) ∧ phv (2) (pmk 6 f) ≤ 63 * H) (h4 : -(63 * H) ≤ phv (-2) (pmk 6 f) ∧ phv (-2) (pmk 6 f) ≤ 63 * H) (h5 : -(364 * H) ≤ phv (3) (pmk 6 f) ∧ phv (3) (pmk 6 f) ≤ 364 * H) (H0 : 0 ≤ H) : ∀ k, k < 6 → -(5760 * H) ≤ f k ∧ f k ≤ 5760 * H := by
  obtain ⟨V0, v0⟩ : ∃ V, V = phv (0) (pmk 6 f) := ⟨_, rfl⟩
  rw [← v0] at h0
  have v0' : V0 = (f 0 + (0) * (f 1 + (0) * (f 2 + (0) * (f 3 + (0) * (f 4 + (0) * (f 5 + (0) * 0)))))) := v0
  obtain ⟨V1, v1⟩ : ∃ V, V = phv (1) (pmk 6 f) := ⟨_, rfl⟩
  rw [← v1] at h1
  have v1' : V1 = (f 0 + (1) * (f 1 + (1) * (f 2 + (1) * (f 3 + (1) * (f 4 + (1) * (f 5 + (1) * 0)))))) := v1
  obtain ⟨V2, v2⟩ : ∃ V, V = phv (-1) (pmk 6 f) := ⟨_, rfl⟩
  rw [← v2] at h2
  have v2' : V2 = (f 0 + (-1) * (f 1 + (-1) * (f 2 + (-1) * (f 3 + (-1) * (f 4 + (-1) * (f 5 + (-1) * 0)))))) := v2
  obtain ⟨V3, v3⟩ : ∃ V, V = phv (2) (pmk 6 f) := ⟨_, rfl⟩
  rw [← v3] at h3
  have v3' : V3 = (f 0 + (2) * (f 1 + (2) * (f 2 + (2) * (f 3 + (2) * (f 4 + (2) * (f 5 + (2) * 0)))))) := v3
  obtain ⟨V4, v4⟩ : ∃ V, V = phv (-2) (pmk 6 f) := ⟨_, rfl⟩
  rw [← v4] at h4
  have v4' : V4 = (f 0 + (-2) * (f 1 + (-2) * (f 2 + (-2) * (f 3 + (-2) * (f 4 + (-2) * (f 5 + (-2) * 0)))))) := v4
  obtain ⟨V5, v5⟩ : ∃ V, V = phv (3) (pmk 6 f) := ⟨_, rfl⟩
  rw [← v5] at h5
  have v5' : V5 = (f 0 + (3) * (f 1 + (3) * (f 2 + (3) * (f 3 + (3) * (f 4 + (3) * (f 5 + (3) * 0)))))) := v5
  clear v0 v1 v2 v3 v4 v5
  intro k hk
  have : k = 0 ∨ k = 1 ∨ k = 2 ∨ k = 3 ∨ k = 4 ∨ k = 5 := by omega
  rcases this with q | q | q | q | q | q <;> subst q
  · have e : 1 * f 0 = (1) * V0 := by omega
    clear v0' v1' v2' v3' v4' v5'
    omega
  · have e : 60 * f 1 = (-20) * V0 + (60) * V1 + (-30) * V2 + (-15) * V3 + (3) * V4 + (2) * V5 := by omega
    clear v0' v1' v2' v3' v4' v5'
    omega
  · have e : 24 * f 2 = (-30) * V0 + (16) * V1 + (16) * V2 + (-1) * V3 + (-1) * V4 := by omega
    clear v0' v1' v2' v3' v4' v5'
    omega
  · have e : 24 * f 3 = (10) * V0 + (-14) * V1 + (-1) * V2 + (7) * V3 + (-1) * V4 + (-1) * V5 := by omega
    clear v0' v1' v2' v3' v4' v5'
    omega
  · have e : 24 * f 4 = (6) * V0 + (-4) * V1 + (-4) * V2 + (1) * V3 + (1) * V4 := by omega
    clear v0' v1' v2' v3' v4' v5'
    omega
  · have e : 120 * f 5 = (-10) * V0 + (10) * V1 + (5) * V2 + (-5) * V3 + (-1) * V4 + (1) * V5 := by omega
    clear v0' v1' v2' v3' v4' v5'
    omega
theorem fb_up5 {f : Nat → Int} {H : Int} (h : ∀ k, -H ≤ f k ∧ f k ≤ H) : (-(1 * H) ≤ phv (0) (pmk 6 f) ∧ phv (0) (pmk 6 f) ≤ 1 * H) ∧ (-(6 * H) ≤ phv (1) (pmk 6 f) ∧ phv (1) (pmk 6 f) ≤ 6 * H) ∧ (-(6 * H) ≤ phv (-1) (pmk 6 f) ∧ phv (-1) (pmk 6 f) ≤ 6 * H) ∧ (-(63 * H) ≤ phv (2) (pmk 6 f) ∧ phv (2) (pmk 6 f) ≤ 63 * H) ∧ (-(63 * H) ≤ phv (-2) (pmk 6 f) ∧ phv (-2) (pmk 6 f) ≤ 63 * H) ∧ (-(364 * H) ≤ phv (3) (pmk 6 f) ∧ phv (3) (pmk 6 f) ≤ 364 * H) := by
  have g0 := h 0
  have g1 := h 1
  have g2 := h 2
  have g3 := h 3
  have g4 := h 4
  have g5 := h 5
  clear h
  refine ⟨?_, ?_, ?_, ?_, ?_, ?_⟩
  · have u : phv (0) (pmk 6 f) = (f 0 + (0) * (f 1 + (0) * (f 2 + (0) * (f 3 + (0) * (f 4 + (0) * (f 5 + (0) * 0)))))) := rfl
    rw [u]; clear u; omega
  · have u : phv (1) (pmk 6 f) = (f 0 + (1) * (f 1 + (1) * (f 2 + (1) * (f 3 + (1) * (f 4 + (1) * (f 5 + (1) * 0)))))) := rfl
    rw [u]; clear u; omega
  · have u : phv (-1) (pmk 6 f) = (f 0 + (-1) * (f 1 + (-1) * (f 2 + (-1) * (f 3 + (-1) * (f 4 + (-1) * (f 5 + (-1) * 0)))))) := rfl
    rw [u]; clear u; omega
  · have u : phv (2) (pmk 6 f) = (f 0 + (2) * (f 1 + (2) * (f 2 + (2) * (f 3 + (2) * (f 4 + (2) * (f 5 + (2) * 0)))))) := rfl
    rw [u]; clear u; omega
  · have u : phv (-2) (pmk 6 f) = (f 0 + (-2) * (f 1 + (-2) * (f 2 + (-2) * (f 3 + (-2) * (f 4 + (-2) * (f 5 + (-2) * 0)))))) := rfl
    rw [u]; clear u; omega
  · have u : phv (3) (pmk 6 f) = (f 0 + (3) * (f 1 + (3) * (f 2 + (3) * (f 3 + (3) * (f 4 + (3) * (f 5 + (3) * 0)))))) := rfl
    rw [u]; clear u; omega
theorem fb_5 : fbn 5 5760 := by
  intro F A Q H e hF h0 HF
  have hA := dv_deg e h0 hF
  have pl : ∀ p : Int, phv p F = 0 → pab A (5760 * H) := fun p hp k => Nat.le_trans (fb_peel fb_4 e hF h0 HF hp k) (Nat.mul_le_mul_right _ (by decide))
  by_cases c0 : phv (0) F = 0
  · exact pl _ c0
  by_cases c1 : phv (1) F = 0
  · exact pl _ c1
  by_cases c2 : phv (-1) F = 0
  · exact pl _ c2
  by_cases c3 : phv (2) F = 0
  · exact pl _ c3
  by_cases c4 : phv (-2) F = 0
  · exact pl _ c4
  by_cases c5 : phv (3) F = 0
  · exact pl _ c5
  have w0 := fb_val e c0
  rw [phv_pad (n := 6) hF, phv_pad (n := 6) hA] at w0
  have w1 := fb_val e c1
  rw [phv_pad (n := 6) hF, phv_pad (n := 6) hA] at w1
  have w2 := fb_val e c2
  rw [phv_pad (n := 6) hF, phv_pad (n := 6) hA] at w2
  have w3 := fb_val e c3
  rw [phv_pad (n := 6) hF, phv_pad (n := 6) hA] at w3
  have w4 := fb_val e c4
  rw [phv_pad (n := 6) hF, phv_pad (n := 6) hA] at w4
  have w5 := fb_val e c5
  rw [phv_pad (n := 6) hF, phv_pad (n := 6) hA] at w5
  have U := fb_up5 (f := pgt F) (H := (H : Int)) (fun k => by have := HF k; omega)
  have L := fb_lag5 (f := pgt A) (H := (H : Int)) (nat_le w0 U.1) (nat_le w1 U.2.1) (nat_le w2 U.2.2.1) (nat_le w3 U.2.2.2.1) (nat_le w4 U.2.2.2.2.1) (nat_le w5 U.2.2.2.2.2) (by omega)
  intro k
  by_cases c : k < 6
  · have := L k c; omega
  · rw [hA k (by omega)]; show (0 : Int).natAbs ≤ _; omega
theorem fb_lag6 {f : Nat → Int} {H : Int} (h0 : -(1 * H) ≤ phv (0) (pmk 7 f) ∧ phv (0) (pmk 7 f) ≤ 1 * H) (h1 : -(7 * H) ≤ phv (1) (pmk 7 f) ∧ phv (1) (pmk 7 f) ≤ 7 * H) (h2 : -(7 * H) ≤ phv (-1) (pmk 7 f) ∧ phv (-1) (pmk 7 f) ≤ 7 * H) (h3 : -(127 * H) ≤ phv (2) (pmk 7 f) ∧ phv (2) (pmk 7 f) ≤ 127 * H) (h4 : -(127 * H) ≤ phv (-2) (pmk 7 f) ∧ phv (-2) (pmk 7 f) ≤ 127 * H) (h5 : -(1093 * H) ≤ phv (3) (pmk 7 f) ∧ phv (3) (pmk 7 f) ≤ 1093 * H) (h6 : -(1093 * H) ≤ phv (-3) (pmk 7 f) ∧ phv (-3) (pmk 7 f) ≤ 1093 * H) (H0 : 0 ≤ H) : ∀ k, k < 7 → -(69120 * H) ≤ f k ∧ f k ≤ 69120 * H := by
  obtain ⟨V0, v0⟩ : ∃ V, V = phv (0) (pmk 7 f) := ⟨_, rfl⟩
  rw [← v0] at h0
  have v0' : V0 = (f 0 + (0) * (f 1 + (0) * (f 2 + (0) * (f 3 + (0) * (f 4 + (0) * (f 5 + (0) * (f 6 + (0) * 0))))))) := v0
  obtain ⟨V1, v1⟩ : ∃ V, V = phv (1) (pmk 7 f) := ⟨_, rfl⟩
  rw [← v1] at h1
  have v1' : V1 = (f 0 + (1) * (f 1 + (1) * (f 2 + (1) * (f 3 + (1) * (f 4 + (1) * (f 5 + (1) * (f 6 + (1) * 0))))))) := v1
  obtain ⟨V2, v2⟩ : ∃ V, V = phv (-1) (pmk 7 f) := ⟨_, rfl⟩
  rw [← v2] at h2
  have v2' : V2 = (f 0 + (-1) * (f 1 + (-1) * (f 2 + (-1) * (f 3 + (-1) * (f 4 + (-1) * (f 5 + (-1) * (f 6 + (-1) * 0))))))) := v2
  obtain ⟨V3, v3⟩ : ∃ V, V = phv (2) (pmk 7 f) := ⟨_, rfl⟩
  rw [← v3] at h3
  have v3' : V3 = (f 0 + (2) * (f 1 + (2) * (f 2 + (2) * (f 3 + (2) * (f 4 + (2) * (f 5 + (2) * (f 6 + (2) * 0))))))) := v3
  obtain ⟨V4, v4⟩ : ∃ V, V = phv (-2) (pmk 7 f) := ⟨_, rfl⟩
  rw [← v4] at h4
  have v4' : V4 = (f 0 + (-2) * (f 1 + (-2) * (f 2 + (-2) * (f 3 + (-2) * (f 4 + (-2) * (f 5 + (-2) * (f 6 + (-2) * 0))))))) := v4
  obtain ⟨V5, v5⟩ : ∃ V, V = phv (3) (pmk 7 f) := ⟨_, rfl⟩
  rw [← v5] at h5
  have v5' : V5 = (f 0 + (3) * (f 1 + (3) * (f 2 + (3) * (f 3 + (3) * (f 4 + (3) * (f 5 + (3) * (f 6 + (3) * 0))))))) := v5
  obtain ⟨V6, v6⟩ : ∃ V, V = phv (-3) (pmk 7 f) := ⟨_, rfl⟩
  rw [← v6] at h6
  have v6' : V6 = (f 0 + (-3) * (f 1 + (-3) * (f 2 + (-3) * (f 3 + (-3) * (f 4 + (-3) * (f 5 + (-3) * (f 6 + (-3) * 0))))))) := v6
  clear v0 v1 v2 v3 v4 v5 v6
  intro k hk
  have : k = 0 ∨ k = 1 ∨ k = 2 ∨ k = 3 ∨ k = 4 ∨ k = 5 ∨ k = 6 := by omega
  rcases this with q | q | q | q | q | q | q <;> subst q
  · have e : 1 * f 0 = (1) * V0 := by omega
    clear v0' v1' v2' v3' v4' v5' v6'
    omega
  · have e : 60 * f 1 = (45) * V1 + (-45) * V2 + (-9) * V3 + (9) * V4 + (1) * V5 + (-1) * V6 := by omega
    clear v0' v1' v2' v3' v4' v5' v6'
    omega
  · have e : 360 * f 2 = (-490) * V0 + (270) * V1 + (270) * V2 + (-27) * V3 + (-27) * V4 + (2) * V5 + (2) * V6 := by omega
    clear v0' v1' v2' v3' v4' v5' v6'
    omega
  · have e : 48 * f 3 = (-13) * V1 + (13) * V2 + (8) * V3 + (-8) * V4 + (-1) * V5 + (1) * V6 := by omega
    clear v0' v1' v2' v3' v4' v5' v6'
    omega
  · have e : 144 * f 4 = (56) * V0 + (-39) * V1 + (-39) * V2 + (12) * V3 + (12) * V4 + (-1) * V5 + (-1) * V6 := by omega
    clear v0' v1' v2' v3' v4' v5' v6'
    omega
  · have e : 240 * f 5 = (5) * V1 + (-5) * V2 + (-4) * V3 + (4) * V4 + (1) * V5 + (-1) * V6 := by omega
    clear v0' v1' v2' v3' v4' v5' v6'
    omega
  · have e : 720 * f 6 = (-20) * V0 + (15) * V1 + (15) * V2 + (-6) * V3 + (-6) * V4 + (1) * V5 + (1) * V6 := by omega
    clear v0' v1' v2' v3' v4' v5' v6'
    omega
theorem fb_up6 {f : Nat → Int} {H : Int} (h : ∀ k, -H ≤ f k ∧ f k ≤ H) : (-(1 * H) ≤ phv (0) (pmk 7 f) ∧ phv (0) (pmk 7 f) ≤ 1 * H) ∧ (-(7 * H) ≤ phv (1) (pmk 7 f) ∧ phv (1) (pmk 7 f) ≤ 7 * H) ∧ (-(7 * H) ≤ phv (-1) (pmk 7 f) ∧ phv (-1) (pmk 7 f) ≤ 7 * H) ∧ (-(127 * H) ≤ phv (2) (pmk 7 f) ∧ phv (2) (pmk 7 f) ≤ 127 * H) ∧ (-(127 * H) ≤ phv (-2) (pmk 7 f) ∧ phv (-2) (pmk 7 f) ≤ 127 * H) ∧ (-(1093 * H) ≤ phv (3) (pmk 7 f) ∧ phv (3) (pmk 7 f) ≤ 1093 * H) ∧ (-(1093 * H) ≤ phv (-3) (pmk 7 f) ∧ phv (-3) (pmk 7 f) ≤ 1093 * H) := by
  have g0 := h 0
  have g1 := h 1
  have g2 := h 2
  have g3 := h 3
  have g4 := h 4
  have g5 := h 5
  have g6 := h 6
  clear h
  refine ⟨?_, ?_, ?_, ?_, ?_, ?_, ?_⟩
  · have u : phv (0) (pmk 7 f) = (f 0 + (0) * (f 1 + (0) * (f 2 + (0) * (f 3 + (0) * (f 4 + (0) * (f 5 + (0) * (f 6 + (0) * 0))))))) := rfl
    rw [u]; clear u; omega
  · have u : phv (1) (pmk 7 f) = (f 0 + (1) * (f 1 + (1) * (f 2 + (1) * (f 3 + (1) * (f 4 + (1) * (f 5 + (1) * (f 6 + (1) * 0))))))) := rfl
    rw [u]; clear u; omega
  · have u : phv (-1) (pmk 7 f) = (f 0 + (-1) * (f 1 + (-1) * (f 2 + (-1) * (f 3 + (-1) * (f 4 + (-1) * (f 5 + (-1) * (f 6 + (-1) * 0))))))) := rfl
    rw [u]; clear u; omega
  · have u : phv (2) (pmk 7 f) = (f 0 + (2) * (f 1 + (2) * (f 2 + (2) * (f 3 + (2) * (f 4 + (2) * (f 5 + (2) * (f 6 + (2) * 0))))))) := rfl
    rw [u]; clear u; omega
  · have u : phv (-2) (pmk 7 f) = (f 0 + (-2) * (f 1 + (-2) * (f 2 + (-2) * (f 3 + (-2) * (f 4 + (-2) * (f 5 + (-2) * (f 6 + (-2) * 0))))))) := rfl
    rw [u]; clear u; omega
  · have u : phv (3) (pmk 7 f) = (f 0 + (3) * (f 1 + (3) * (f 2 + (3) * (f 3 + (3) * (f 4 + (3) * (f 5 + (3) * (f 6 + (3) * 0))))))) := rfl
    rw [u]; clear u; omega
  · have u : phv (-3) (pmk 7 f) = (f 0 + (-3) * (f 1 + (-3) * (f 2 + (-3) * (f 3 + (-3) * (f 4 + (-3) * (f 5 + (-3) * (f 6 + (-3) * 0))))))) := rfl
    rw [u]; clear u; omega
theorem fb_6 : fbn 6 69120 := by
  intro F A Q H e hF h0 HF
  have hA := dv_deg e h0 hF
  have pl : ∀ p : Int, phv p F = 0 → pab A (69120 * H) := fun p hp k => Nat.le_trans (fb_peel fb_5 e hF h0 HF hp k) (Nat.mul_le_mul_right _ (by decide))
  by_cases c0 : phv (0) F = 0
  · exact pl _ c0
  by_cases c1 : phv (1) F = 0
  · exact pl _ c1
  by_cases c2 : phv (-1) F = 0
  · exact pl _ c2
  by_cases c3 : phv (2) F = 0
  · exact pl _ c3
  by_cases c4 : phv (-2) F = 0
  · exact pl _ c4
  by_cases c5 : phv (3) F = 0
  · exact pl _ c5
  by_cases c6 : phv (-3) F = 0
  · exact pl _ c6
  have w0 := fb_val e c0
  rw [phv_pad (n := 7) hF, phv_pad (n := 7) hA] at w0
  have w1 := fb_val e c1
  rw [phv_pad (n := 7) hF, phv_pad (n := 7) hA] at w1
  have w2 := fb_val e c2
  rw [phv_pad (n := 7) hF, phv_pad (n := 7) hA] at w2
  have w3 := fb_val e c3
  rw [phv_pad (n := 7) hF, phv_pad (n := 7) hA] at w3
  have w4 := fb_val e c4
  rw [phv_pad (n := 7) hF, phv_pad (n := 7) hA] at w4
  have w5 := fb_val e c5
  rw [phv_pad (n := 7) hF, phv_pad (n := 7) hA] at w5
  have w6 := fb_val e c6
  rw [phv_pad (n := 7) hF, phv_pad (n := 7) hA] at w6
  have U := fb_up6 (f := pgt F) (H := (H : Int)) (fun k => by have := HF k; omega)
  have L := fb_lag6 (f := pgt A) (H := (H : Int)) (nat_le w0 U.1) (nat_le w1 U.2.1) (nat_le w2 U.2.2.1) (nat_le w3 U.2.2.2.1) (nat_le w4 U.2.2.2.2.1) (nat_le w5 U.2.2.2.2.2.1) (nat_le w6 U.2.2.2.2.2.2) (by omega)
  intro k
  by_cases c : k < 7
  · have := L k c; omega
  · rw [hA k (by omega)]; show (0 : Int).natAbs ≤ _; omega
theorem fb_lag7 {f : Nat → Int} {H : Int} (h0 : -(1 * H) ≤ phv (0) (pmk 8 f) ∧ phv (0) (pmk 8 f) ≤ 1 * H) (h1 : -(8 * H) ≤ phv (1) (pmk 8 f) ∧ phv (1) (pmk 8 f) ≤ 8 * H) (h2 : -(8 * H) ≤ phv (-1) (pmk 8 f) ∧ phv (-1) (pmk 8 f) ≤ 8 * H) (h3 : -(255 * H) ≤ phv (2) (pmk 8 f) ∧ phv (2) (pmk 8 f) ≤ 255 * H) (h4 : -(255 * H) ≤ phv (-2) (pmk 8 f) ∧ phv (-2) (pmk 8 f) ≤ 255 * H) (h5 : -(3280 * H) ≤ phv (3) (pmk 8 f) ∧ phv (3) (pmk 8 f) ≤ 3280 * H) (h6 : -(3280 * H) ≤ phv (-3) (pmk 8 f) ∧ phv (-3) (pmk 8 f) ≤ 3280 * H) (h7 : -(21845 * H) ≤ phv (4) (pmk 8 f) ∧ phv (4) (pmk 8 f) ≤ 21845 * H) (H0 : 0 ≤ H) : ∀ k, k < 8 → -(967680 * H) ≤ f k ∧ f k ≤ 967680 * H := by
  obtain ⟨V0, v0⟩ : ∃ V, V = phv (0) (pmk 8 f) := ⟨_, rfl⟩
  rw [← v0] at h0
  have v0' : V0 = (f 0 + (0) * (f 1 + (0) * (f 2 + (0) * (f 3 + (0) * (f 4 + (0) * (f 5 + (0) * (f 6 + (0) * (f 7 + (0) * 0)))))))) := v0
  obtain ⟨V1, v1⟩ : ∃ V, V = phv (1) (pmk 8 f) := ⟨_, rfl⟩
  rw [← v1] at h1
  have v1' : V1 = (f 0 + (1) * (f 1 + (1) * (f 2 + (1) * (f 3 + (1) * (f 4 + (1) * (f 5 + (1) * (f 6 + (1) * (f 7 + (1) * 0)))))))) := v1
  obtain ⟨V2, v2⟩ : ∃ V, V = phv (-1) (pmk 8 f) := ⟨_, rfl⟩
  rw [← v2] at h2
  have v2' : V2 = (f 0 + (-1) * (f 1 + (-1) * (f 2 + (-1) * (f 3 + (-1) * (f 4 + (-1) * (f 5 + (-1) * (f 6 + (-1) * (f 7 + (-1) * 0)))))))) := v2
  obtain ⟨V3, v3⟩ : ∃ V, V = phv (2) (pmk 8 f) := ⟨_, rfl⟩
  rw [← v3] at h3
  have v3' : V3 = (f 0 + (2) * (f 1 + (2) * (f 2 + (2) * (f 3 + (2) * (f 4 + (2) * (f 5 + (2) * (f 6 + (2) * (f 7 + (2) * 0)))))))) := v3
  obtain ⟨V4, v4⟩ : ∃ V, V = phv (-2) (pmk 8 f) := ⟨_, rfl⟩
  rw [← v4] at h4
  have v4' : V4 = (f 0 + (-2) * (f 1 + (-2) * (f 2 + (-2) * (f 3 + (-2) * (f 4 + (-2) * (f 5 + (-2) * (f 6 + (-2) * (f 7 + (-2) * 0)))))))) := v4
  obtain ⟨V5, v5⟩ : ∃ V, V = phv (3) (pmk 8 f) := ⟨_, rfl⟩
  rw [← v5] at h5
  have v5' : V5 = (f 0 + (3) * (f 1 + (3) * (f 2 + (3) * (f 3 + (3) * (f 4 + (3) * (f 5 + (3) * (f 6 + (3) * (f 7 + (3) * 0)))))))) := v5
  obtain ⟨V6, v6⟩ : ∃ V, V = phv (-3) (pmk 8 f) := ⟨_, rfl⟩
  rw [← v6] at h6
  have v6' : V6 = (f 0 + (-3) * (f 1 + (-3) * (f 2 + (-3) * (f 3 + (-3) * (f 4 + (-3) * (f 5 + (-3) * (f 6 + (-3) * (f 7 + (-3) * 0)))))))) := v6
  obtain ⟨V7, v7⟩ : ∃ V, V = phv (4) (pmk 8 f) := ⟨_, rfl⟩
  rw [← v7] at h7
  have v7' : V7 = (f 0 + (4) * (f 1 + (4) * (f 2 + (4) * (f 3 + (4) * (f 4 + (4) * (f 5 + (4) * (f 6 + (4) * (f 7 + (4) * 0)))))))) := v7
  clear v0 v1 v2 v3 v4 v5 v6 v7
  intro k hk
  have : k = 0 ∨ k = 1 ∨ k = 2 ∨ k = 3 ∨ k = 4 ∨ k = 5 ∨ k = 6 ∨ k = 7 := by omega
  rcases this with q | q | q | q | q | q | q | q <;> subst q
  · have e : 1 * f 0 = (1) * V0 := by omega
    clear v0' v1' v2' v3' v4' v5' v6' v7'
    omega
  · have e : 420 * f 1 = (-105) * V0 + (420) * V1 + (-252) * V2 + (-126) * V3 + (42) * V4 + (28) * V5 + (-4) * V6 + (-3) * V7 := by omega
    clear v0' v1' v2' v3' v4' v5' v6' v7'
    omega
  · have e : 360 * f 2 = (-490) * V0 + (270) * V1 + (270) * V2 + (-27) * V3 + (-27) * V4 + (2) * V5 + (2) * V6 := by omega
    clear v0' v1' v2' v3' v4' v5' v6' v7'
    omega
  · have e : 720 * f 3 = (245) * V0 + (-440) * V1 + (48) * V2 + (267) * V3 + (-71) * V4 + (-64) * V5 + (8) * V6 + (7) * V7 := by omega
    clear v0' v1' v2' v3' v4' v5' v6' v7'
    omega
  · have e : 144 * f 4 = (56) * V0 + (-39) * V1 + (-39) * V2 + (12) * V3 + (12) * V4 + (-1) * V5 + (-1) * V6 := by omega
    clear v0' v1' v2' v3' v4' v5' v6' v7'
    omega
  · have e : 720 * f 5 = (-70) * V0 + (85) * V1 + (27) * V2 + (-54) * V3 + (-2) * V4 + (17) * V5 + (-1) * V6 + (-2) * V7 := by omega
    clear v0' v1' v2' v3' v4' v5' v6' v7'
    omega
  · have e : 720 * f 6 = (-20) * V0 + (15) * V1 + (15) * V2 + (-6) * V3 + (-6) * V4 + (1) * V5 + (1) * V6 := by omega
    clear v0' v1' v2' v3' v4' v5' v6' v7'
    omega
  · have e : 5040 * f 7 = (35) * V0 + (-35) * V1 + (-21) * V2 + (21) * V3 + (7) * V4 + (-7) * V5 + (-1) * V6 + (1) * V7 := by omega
    clear v0' v1' v2' v3' v4' v5' v6' v7'
    omega
theorem fb_up7 {f : Nat → Int} {H : Int} (h : ∀ k, -H ≤ f k ∧ f k ≤ H) : (-(1 * H) ≤ phv (0) (pmk 8 f) ∧ phv (0) (pmk 8 f) ≤ 1 * H) ∧ (-(8 * H) ≤ phv (1) (pmk 8 f) ∧ phv (1) (pmk 8 f) ≤ 8 * H) ∧ (-(8 * H) ≤ phv (-1) (pmk 8 f) ∧ phv (-1) (pmk 8 f) ≤ 8 * H) ∧ (-(255 * H) ≤ phv (2) (pmk 8 f) ∧ phv (2) (pmk 8 f) ≤ 255 * H) ∧ (-(255 * H) ≤ phv (-2) (pmk 8 f) ∧ phv (-2) (pmk 8 f) ≤ 255 * H) ∧ (-(3280 * H) ≤ phv (3) (pmk 8 f) ∧ phv (3) (pmk 8 f) ≤ 3280 * H) ∧ (-(3280 * H) ≤ phv (-3) (pmk 8 f) ∧ phv (-3) (pmk 8 f) ≤ 3280 * H) ∧ (-(21845 * H) ≤ phv (4) (pmk 8 f) ∧ phv (4) (pmk 8 f) ≤ 21845 * H) := by
  have g0 := h 0
  have g1 := h 1
  have g2 := h 2
  have g3 := h 3
  have g4 := h 4
  have g5 := h 5
  have g6 := h 6
  have g7 := h 7
  clear h
  refine ⟨?_, ?_, ?_, ?_, ?_, ?_, ?_, ?_⟩
  · have u : phv (0) (pmk 8 f) = (f 0 + (0) * (f 1 + (0) * (f 2 + (0) * (f 3 + (0) * (f 4 + (0) * (f 5 + (0) * (f 6 + (0) * (f 7 + (0) * 0)))))))) := rfl
    rw [u]; clear u; omega
  · have u : phv (1) (pmk 8 f) = (f 0 + (1) * (f 1 + (1) * (f 2 + (1) * (f 3 + (1) * (f 4 + (1) * (f 5 + (1) * (f 6 + (1) * (f 7 + (1) * 0)))))))) := rfl
    rw [u]; clear u; omega
  · have u : phv (-1) (pmk 8 f) = (f 0 + (-1) * (f 1 + (-1) * (f 2 + (-1) * (f 3 + (-1) * (f 4 + (-1) * (f 5 + (-1) * (f 6 + (-1) * (f 7 + (-1) * 0)))))))) := rfl
    rw [u]; clear u; omega
  · have u : phv (2) (pmk 8 f) = (f 0 + (2) * (f 1 + (2) * (f 2 + (2) * (f 3 + (2) * (f 4 + (2) * (f 5 + (2) * (f 6 + (2) * (f 7 + (2) * 0)))))))) := rfl
    rw [u]; clear u; omega
  · have u : phv (-2) (pmk 8 f) = (f 0 + (-2) * (f 1 + (-2) * (f 2 + (-2) * (f 3 + (-2) * (f 4 + (-2) * (f 5 + (-2) * (f 6 + (-2) * (f 7 + (-2) * 0)))))))) := rfl
    rw [u]; clear u; omega
  · have u : phv (3) (pmk 8 f) = (f 0 + (3) * (f 1 + (3) * (f 2 + (3) * (f 3 + (3) * (f 4 + (3) * (f 5 + (3) * (f 6 + (3) * (f 7 + (3) * 0)))))))) := rfl
    rw [u]; clear u; omega
  · have u : phv (-3) (pmk 8 f) = (f 0 + (-3) * (f 1 + (-3) * (f 2 + (-3) * (f 3 + (-3) * (f 4 + (-3) * (f 5 + (-3) * (f 6 + (-3) * (f 7 + (-3) * 0)))))))) := rfl
    rw [u]; clear u; omega
  · have u : phv (4) (pmk 8 f) = (f 0 + (4) * (f 1 + (4) * (f 2 + (4) * (f 3 + (4) * (f 4 + (4) * (f 5 + (4) * (f 6 + (4) * (f 7 + (4) * 0)))))))) := rfl
    rw [u]; clear u; omega
theorem fb_7 : fbn 7 967680 := by
  intro F A Q H e hF h0 HF
  have hA := dv_deg e h0 hF
  have pl : ∀ p : Int, phv p F = 0 → pab A (967680 * H) := fun p hp k => Nat.le_trans (fb_peel fb_6 e hF h0 HF hp k) (Nat.mul_le_mul_right _ (by decide))
  by_cases c0 : phv (0) F = 0
  · exact pl _ c0
  by_cases c1 : phv (1) F = 0
  · exact pl _ c1
  by_cases c2 : phv (-1) F = 0
  · exact pl _ c2
  by_cases c3 : phv (2) F = 0
  · exact pl _ c3
  by_cases c4 : phv (-2) F = 0
  · exact pl _ c4
  by_cases c5 : phv (3) F = 0
  · exact pl _ c5
  by_cases c6 : phv (-3) F = 0
  · exact pl _ c6
  by_cases c7 : phv (4) F = 0
  · exact pl _ c7
  have w0 := fb_val e c0
  rw [phv_pad (n := 8) hF, phv_pad (n := 8) hA] at w0
  have w1 := fb_val e c1
  rw [phv_pad (n := 8) hF, phv_pad (n := 8) hA] at w1
  have w2 := fb_val e c2
  rw [phv_pad (n := 8) hF, phv_pad (n := 8) hA] at w2
  have w3 := fb_val e c3
  rw [phv_pad (n := 8) hF, phv_pad (n := 8) hA] at w3
  have w4 := fb_val e c4
  rw [phv_pad (n := 8) hF, phv_pad (n := 8) hA] at w4
  have w5 := fb_val e c5
  rw [phv_pad (n := 8) hF, phv_pad (n := 8) hA] at w5
  have w6 := fb_val e c6
  rw [phv_pad (n := 8) hF, phv_pad (n := 8) hA] at w6
  have w7 := fb_val e c7
  rw [phv_pad (n := 8) hF, phv_pad (n := 8) hA] at w7
  have U := fb_up7 (f := pgt F) (H := (H : Int)) (fun k => by have := HF k; omega)
  have L := fb_lag7 (f := pgt A) (H := (H : Int)) (nat_le w0 U.1) (nat_le w1 U.2.1) (nat_le w2 U.2.2.1) (nat_le w3 U.2.2.2.1) (nat_le w4 U.2.2.2.2.1) (nat_le w5 U.2.2.2.2.2.1) (nat_le w6 U.2.2.2.2.2.2.1) (nat_le w7 U.2.2.2.2.2.2.2) (by omega)
  intro k
  by_cases c : k < 8
  · have := L k c; omega
  · rw [hA k (by omega)]; show (0 : Int).natAbs ≤ _; omega
theorem fb_lag8 {f : Nat → Int} {H : Int} (h0 : -(1 * H) ≤ phv (0) (pmk 9 f) ∧ phv (0) (pmk 9 f) ≤ 1 * H) (h1 : -(9 * H) ≤ phv (1) (pmk 9 f) ∧ phv (1) (pmk 9 f) ≤ 9 * H) (h2 : -(9 * H) ≤ phv (-1) (pmk 9 f) ∧ phv (-1) (pmk 9 f) ≤ 9 * H) (h3 : -(511 * H) ≤ phv (2) (pmk 9 f) ∧ phv (2) (pmk 9 f) ≤ 511 * H) (h4 : -(511 * H) ≤ phv (-2) (pmk 9 f) ∧ phv (-2) (pmk 9 f) ≤ 511 * H) (h5 : -(9841 * H) ≤ phv (3) (pmk 9 f) ∧ phv (3) (pmk 9 f) ≤ 9841 * H) (h6 : -(9841 * H) ≤ phv (-3) (pmk 9 f) ∧ phv (-3) (pmk 9 f) ≤ 9841 * H) (h7 : -(87381 * H) ≤ phv (4) (pmk 9 f) ∧ phv (4) (pmk 9 f) ≤ 87381 * H) (h8 : -(87381 * H) ≤ phv (-4) (pmk 9 f) ∧ phv (-4) (pmk 9 f) ≤ 87381 * H) (H0 : 0 ≤ H) : ∀ k, k < 9 → -(15482880 * H) ≤ f k ∧ f k ≤ 15482880 * H := by
  obtain ⟨V0, v0⟩ : ∃ V, V = phv (0) (pmk 9 f) := ⟨_, rfl⟩
  rw [← v0] at h0
  have v0' : V0 = (f 0 + (0) * (f 1 + (0) * (f 2 + (0) * (f 3 + (0) * (f 4 + (0) * (f 5 + (0) * (f 6 + (0) * (f 7 + (0) * (f 8 + (0) * 0))))))))) := v0
  obtain ⟨V1, v1⟩ : ∃ V, V = phv (1) (pmk 9 f) := ⟨_, rfl⟩
  rw [← v1] at h1
  have v1' : V1 = (f 0 + (1) * (f 1 + (1) * (f 2 + (1) * (f 3 + (1) * (f 4 + (1) * (f 5 + (1) * (f 6 + (1) * (f 7 + (1) * (f 8 + (1) * 0))))))))) := v1
  obtain ⟨V2, v2⟩ : ∃ V, V = phv (-1) (pmk 9 f) := ⟨_, rfl⟩
  rw [← v2] at h2
  have v2' : V2 = (f 0 + (-1) * (f 1 + (-1) * (f 2 + (-1) * (f 3 + (-1) * (f 4 + (-1) * (f 5 + (-1) * (f 6 + (-1) * (f 7 + (-1) * (f 8 + (-1) * 0))))))))) := v2
  obtain ⟨V3, v3⟩ : ∃ V, V = phv (2) (pmk 9 f) := ⟨_, rfl⟩
  rw [← v3] at h3
  have v3' : V3 = (f 0 + (2) * (f 1 + (2) * (f 2 + (2) * (f 3 + (2) * (f 4 + (2) * (f 5 + (2) * (f 6 + (2) * (f 7 + (2) * (f 8 + (2) * 0))))))))) := v3
  obtain ⟨V4, v4⟩ : ∃ V, V = phv (-2) (pmk 9 f) := ⟨_, rfl⟩
  rw [← v4] at h4
  have v4' : V4 = (f 0 + (-2) * (f 1 + (-2) * (f 2 + (-2) * (f 3 + (-2) * (f 4 + (-2) * (f 5 + (-2) * (f 6 + (-2) * (f 7 + (-2) * (f 8 + (-2) * 0))))))))) := v4
  obtain ⟨V5, v5⟩ : ∃ V, V = phv (3) (pmk 9 f) := ⟨_, rfl⟩
  rw [← v5] at h5
  have v5' : V5 = (f 0 + (3) * (f 1 + (3) * (f 2 + (3) * (f 3 + (3) * (f 4 + (3) * (f 5 + (3) * (f 6 + (3) * (f 7 + (3) * (f 8 + (3) * 0))))))))) := v5
  obtain ⟨V6, v6⟩ : ∃ V, V = phv (-3) (pmk 9 f) := ⟨_, rfl⟩
  rw [← v6] at h6
  have v6' : V6 = (f 0 + (-3) * (f 1 + (-3) * (f 2 + (-3) * (f 3 + (-3) * (f 4 + (-3) * (f 5 + (-3) * (f 6 + (-3) * (f 7 + (-3) * (f 8 + (-3) * 0))))))))) := v6
  obtain ⟨V7, v7⟩ : ∃ V, V = phv (4) (pmk 9 f) := ⟨_, rfl⟩
  rw [← v7] at h7
  have v7' : V7 = (f 0 + (4) * (f 1 + (4) * (f 2 + (4) * (f 3 + (4) * (f 4 + (4) * (f 5 + (4) * (f 6 + (4) * (f 7 + (4) * (f 8 + (4) * 0))))))))) := v7
  obtain ⟨V8, v8⟩ : ∃ V, V = phv (-4) (pmk 9 f) := ⟨_, rfl⟩
  rw [← v8] at h8
  have v8' : V8 = (f 0 + (-4) * (f 1 + (-4) * (f 2 + (-4) * (f 3 + (-4) * (f 4 + (-4) * (f 5 + (-4) * (f 6 + (-4) * (f 7 + (-4) * (f 8 + (-4) * 0))))))))) := v8
  clear v0 v1 v2 v3 v4 v5 v6 v7 v8
  intro k hk
  have : k = 0 ∨ k = 1 ∨ k = 2 ∨ k = 3 ∨ k = 4 ∨ k = 5 ∨ k = 6 ∨ k = 7 ∨ k = 8 := by omega
  rcases this with q | q | q | q | q | q | q | q | q <;> subst q
  · have e : 1 * f 0 = (1) * V0 := by omega
    clear v0' v1' v2' v3' v4' v5' v6' v7' v8'
    omega
  · have e : 840 * f 1 = (672) * V1 + (-672) * V2 + (-168) * V3 + (168) * V4 + (32) * V5 + (-32) * V6 + (-3) * V7 + (3) * V8 := by omega
    clear v0' v1' v2' v3' v4' v5' v6' v7' v8'
    omega
  · have e : 10080 * f 2 = (-14350) * V0 + (8064) * V1 + (8064) * V2 + (-1008) * V3 + (-1008) * V4 + (128) * V5 + (128) * V6 + (-9) * V7 + (-9) * V8 := by omega
    clear v0' v1' v2' v3' v4' v5' v6' v7' v8'
    omega
  · have e : 1440 * f 3 = (-488) * V1 + (488) * V2 + (338) * V3 + (-338) * V4 + (-72) * V5 + (72) * V6 + (7) * V7 + (-7) * V8 := by omega
    clear v0' v1' v2' v3' v4' v5' v6' v7' v8'
    omega
  · have e : 5760 * f 4 = (2730) * V0 + (-1952) * V1 + (-1952) * V2 + (676) * V3 + (676) * V4 + (-96) * V5 + (-96) * V6 + (7) * V7 + (7) * V8 := by omega
    clear v0' v1' v2' v3' v4' v5' v6' v7' v8'
    omega
  · have e : 720 * f 5 = (29) * V1 + (-29) * V2 + (-26) * V3 + (26) * V4 + (9) * V5 + (-9) * V6 + (-1) * V7 + (1) * V8 := by omega
    clear v0' v1' v2' v3' v4' v5' v6' v7' v8'
    omega
  · have e : 2880 * f 6 = (-150) * V0 + (116) * V1 + (116) * V2 + (-52) * V3 + (-52) * V4 + (12) * V5 + (12) * V6 + (-1) * V7 + (-1) * V8 := by omega
    clear v0' v1' v2' v3' v4' v5' v6' v7' v8'
    omega
  · have e : 10080 * f 7 = (-14) * V1 + (14) * V2 + (14) * V3 + (-14) * V4 + (-6) * V5 + (6) * V6 + (1) * V7 + (-1) * V8 := by omega
    clear v0' v1' v2' v3' v4' v5' v6' v7' v8'
    omega
  · have e : 40320 * f 8 = (70) * V0 + (-56) * V1 + (-56) * V2 + (28) * V3 + (28) * V4 + (-8) * V5 + (-8) * V6 + (1) * V7 + (1) * V8 := by omega
    clear v0' v1' v2' v3' v4' v5' v6' v7' v8'
    omega
theorem fb_up8 {f : Nat → Int} {H : Int} (h : ∀ k, -H ≤ f k ∧ f k ≤ H) : (-(1 * H) ≤ phv (0) (pmk 9 f) ∧ phv (0) (pmk 9 f) ≤ 1 * H) ∧ (-(9 * H) ≤ phv (1) (pmk 9 f) ∧ phv (1) (pmk 9 f) ≤ 9 * H) ∧ (-(9 * H) ≤ phv (-1) (pmk 9 f) ∧ phv (-1) (pmk 9 f) ≤ 9 * H) ∧ (-(511 * H) ≤ phv (2) (pmk 9 f) ∧ phv (2) (pmk 9 f) ≤ 511 * H) ∧ (-(511 * H) ≤ phv (-2) (pmk 9 f) ∧ phv (-2) (pmk 9 f) ≤ 511 * H) ∧ (-(9841 * H) ≤ phv (3) (pmk 9 f) ∧ phv (3) (pmk 9 f) ≤ 9841 * H) ∧ (-(9841 * H) ≤ phv (-3) (pmk 9 f) ∧ phv (-3) (pmk 9 f) ≤ 9841 * H) ∧ (-(87381 * H) ≤ phv (4) (pmk 9 f) ∧ phv (4) (pmk 9 f) ≤ 87381 * H) ∧ (-(87381 * H) ≤ phv (-4) (pmk 9 f) ∧ phv (-4) (pmk 9 f) ≤ 87381 * H) := by
  have g0 := h 0
  have g1 := h 1
  have g2 := h 2
  have g3 := h 3
  have g4 := h 4
  have g5 := h 5
  have g6 := h 6
  have g7 := h 7
  have g8 := h 8
  clear h
  refine ⟨?_, ?_, ?_, ?_, ?_, ?_, ?_, ?_, ?_⟩
  · have u : phv (0) (pmk 9 f) = (f 0 + (0) * (f 1 + (0) * (f 2 + (0) * (f 3 + (0) * (f 4 + (0) * (f 5 + (0) * (f 6 + (0) * (f 7 + (0) * (f 8 + (0) * 0))))))))) := rfl
    rw [u]; clear u; omega
  · have u : phv (1) (pmk 9 f) = (f 0 + (1) * (f 1 + (1) * (f 2 + (1) * (f 3 + (1) * (f 4 + (1) * (f 5 + (1) * (f 6 + (1) * (f 7 + (1) * (f 8 + (1) * 0))))))))) := rfl
    rw [u]; clear u; omega
  · have u : phv (-1) (pmk 9 f) = (f 0 + (-1) * (f 1 + (-1) * (f 2 + (-1) * (f 3 + (-1) * (f 4 + (-1) * (f 5 + (-1) * (f 6 + (-1) * (f 7 + (-1) * (f 8 + (-1) * 0))))))))) := rfl
    rw [u]; clear u; omega
  · have u : phv (2) (pmk 9 f) = (f 0 + (2) * (f 1 + (2) * (f 2 + (2) * (f 3 + (2) * (f 4 + (2) * (f 5 + (2) * (f 6 + (2) * (f 7 + (2) * (f 8 + (2) * 0))))))))) := rfl
    rw [u]; clear u; omega
  · have u : phv (-2) (pmk 9 f) = (f 0 + (-2) * (f 1 + (-2) * (f 2 + (-2) * (f 3 + (-2) * (f 4 + (-2) * (f 5 + (-2) * (f 6 + (-2) * (f 7 + (-2) * (f 8 + (-2) * 0))))))))) := rfl
    rw [u]; clear u; omega
  · have u : phv (3) (pmk 9 f) = (f 0 + (3) * (f 1 + (3) * (f 2 + (3) * (f 3 + (3) * (f 4 + (3) * (f 5 + (3) * (f 6 + (3) * (f 7 + (3) * (f 8 + (3) * 0))))))))) := rfl
    rw [u]; clear u; omega
  · have u : phv (-3) (pmk 9 f) = (f 0 + (-3) * (f 1 + (-3) * (f 2 + (-3) * (f 3 + (-3) * (f 4 + (-3) * (f 5 + (-3) * (f 6 + (-3) * (f 7 + (-3) * (f 8 + (-3) * 0))))))))) := rfl
    rw [u]; clear u; omega
  · have u : phv (4) (pmk 9 f) = (f 0 + (4) * (f 1 + (4) * (f 2 + (4) * (f 3 + (4) * (f 4 + (4) * (f 5 + (4) * (f 6 + (4) * (f 7 + (4) * (f 8 + (4) * 0))))))))) := rfl
    rw [u]; clear u; omega
  · have u : phv (-4) (pmk 9 f) = (f 0 + (-4) * (f 1 + (-4) * (f 2 + (-4) * (f 3 + (-4) * (f 4 + (-4) * (f 5 + (-4) * (f 6 + (-4) * (f 7 + (-4) * (f 8 + (-4) * 0))))))))) := rfl
    rw [u]; clear u; omega
theorem fb_8 : fbn 8 15482880 := by
  intro F A Q H e hF h0 HF
  have hA := dv_deg e h0 hF
  have pl : ∀ p : Int, phv p F = 0 → pab A (15482880 * H) := fun p hp k => Nat.le_trans (fb_peel fb_7 e hF h0 HF hp k) (Nat.mul_le_mul_right _ (by decide))
  by_cases c0 : phv (0) F = 0
  · exact pl _ c0
  by_cases c1 : phv (1) F = 0
  · exact pl _ c1
  by_cases c2 : phv (-1) F = 0
  · exact pl _ c2
  by_cases c3 : phv (2) F = 0
  · exact pl _ c3
  by_cases c4 : phv (-2) F = 0
  · exact pl _ c4
  by_cases c5 : phv (3) F = 0
  · exact pl _ c5
  by_cases c6 : phv (-3) F = 0
  · exact pl _ c6
  by_cases c7 : phv (4) F = 0
  · exact pl _ c7
  by_cases c8 : phv (-4) F = 0
  · exact pl _ c8
  have w0 := fb_val e c0
  rw [phv_pad (n := 9) hF, phv_pad (n := 9) hA] at w0
  have w1 := fb_val e c1
  rw [phv_pad (n := 9) hF, phv_pad (n := 9) hA] at w1
  have w2 := fb_val e c2
  rw [phv_pad (n := 9) hF, phv_pad (n := 9) hA] at w2
  have w3 := fb_val e c3
  rw [phv_pad (n := 9) hF, phv_pad (n := 9) hA] at w3
  have w4 := fb_val e c4
  rw [phv_pad (n := 9) hF, phv_pad (n := 9) hA] at w4
  have w5 := fb_val e c5
  rw [phv_pad (n := 9) hF, phv_pad (n := 9) hA] at w5
  have w6 := fb_val e c6
  rw [phv_pad (n := 9) hF, phv_pad (n := 9) hA] at w6
  have w7 := fb_val e c7
  rw [phv_pad (n := 9) hF, phv_pad (n := 9) hA] at w7
  have w8 := fb_val e c8
  rw [phv_pad (n := 9) hF, phv_pad (n := 9) hA] at w8
  have U := fb_up8 (f := pgt F) (H := (H : Int)) (fun k => by have := HF k; omega)
  have L := fb_lag8 (f := pgt A) (H := (H : Int)) (nat_le w0 U.1) (nat_le w1 U.2.1) (nat_le w2 U.2.2.1) (nat_le w3 U.2.2.2.1) (nat_le w4 U.2.2.2.2.1) (nat_le w5 U.2.2.2.2.2.1) (nat_le w6 U.2.2.2.2.2.2.1) (nat_le w7 U.2.2.2.2.2.2.2.1) (nat_le w8 U.2.2.2.2.2.2.2.2) (by omega)
  intro k
  by_cases c : k < 9
  · have := L k c; omega
  · rw [hA k (by omega)]; show (0 : Int).natAbs ≤ _; omega
/-- a divisor of a polynomial with factors up to 10 ^ 9 -/
theorem fb_all {F A Q : List Int} (e : ∀ x : Rat, pev F x = pev A x * pev Q x) (hF : pdb F 9) (h0 : ∃ k, pgt F k ≠ 0) (HF : pab F 1000000000) : pab A 15482880000000000 := fun k => Nat.le_trans (fb_8 F A Q 1000000000 e hF h0 HF k) (by decide)
