/-! common2: what it gives, what it costs -/
theorem common2_49b {s s1 : im_S} {f z : Int} {F : List Int} {M : Nat} {Q : Int → im_S → Prop} (hs : ps s s1) (hz0 : wgf s 28 ≤ z) (hfz : f < z) (hz1 : wgf s1 28 = z + 1) (hz2 : z < 1200) (hf : pol s1 f F) (hM : plb F M) (hd : wga s1 598 z = (F.length : Int) - 1) (h0 : 0 ≤ wgf s1 24) (hm : wgf s1 24 + 3 * (F.length * ((M : Int) + 1)) + 6 * M + 30 ≤ 684000) (hQ : ∀ s' R, ps s s' → wgf s' 28 = z + 1 → pol s' z R → cr 1 F R → wgf s' 24 ≤ wgf s1 24 + 1 + 3 * (F.length * ((M : Int) + 1)) → Q z s') : wloop (fun (K : Int × im_S → Prop) (a : Int × im_S) => W_common2_49 K f z a.1 a.2 Q) (0, s1) := by
  obtain ⟨f1, f2, f3, f4, f5, f6⟩ := hf
  have hfb : 0 ≤ f ∧ f < 1200 := ⟨f1, by omega⟩
  have hzb : 0 ≤ z ∧ z < 1200 := ⟨by omega, hz2⟩
  refine ⟨fun a => ∃ k : Nat, a.1 = k ∧ k ≤ F.length ∧ pc z s1 a.2 ∧ wgf a.2 24 = wgf s1 24 ∧ wga a.2 598 z = (F.length : Int) - 1 ∧ ∀ j : Nat, j < k → nm a.2 (wga a.2 599 (9 * z + j)) (pgt F j), fun a => ((F.length : Int) - a.1).toNat, ⟨0, rfl, by omega, pc_rfl, rfl, hd, fun j hj => by omega⟩, ?_⟩
  rintro ⟨k0, s2⟩ ⟨k, i1, i2, i3, i5, i6, i7⟩
  dsimp only at i1 i2 i3 i5 i6 i7 ⊢
  subst i1
  unfold W_common2_49
  have df : wga s2 598 f = (F.length : Int) - 1 := by rw [pc_d i3 f1 (by omega)]; exact f5
  have z28 := pc_28 i3
  refine ⟨hfb, fun c => ?_, fun c => ?_⟩
  · have ek : k = F.length := by omega
    have pz : pol s2 z F := ⟨hzb.1, by omega, by omega, f4, i6, fun j hj => i7 j (by omega)⟩
    refine clean_ok pz hM (Or.inr rfl) (by omega) (by omega) (fun s' R c1 c2 c3 c4 c5 => ?_)
    have c28 := pc_28 c1
    exact hQ s' R (pc_ps hs hz0 (pc_tr i3 c1)) (by omega) c2 c3 (by omega)
  · have hk : k < F.length := by omega
    refine at_ok hfb.1 hfb.2 (by omega) (by omega) (set_ok hzb.1 hzb.2 (by omega) (by omega) ⟨⟨by omega, by omega⟩, ⟨k + 1, by dsimp only; omega, by omega, ?_, ?_, ?_, fun j hj => ?_⟩, by dsimp only; omega⟩)
    · exact pc_set i3 hzb.1 (by omega) (by omega)
    · dsimp only; rw [wf_pa]; exact i5
    · dsimp only; rw [wg_row (by decide)]; exact i6
    · dsimp only
      by_cases q : j = k
      · subst q
        refine en_new ?_
        rw [pc_p i3 (by omega) (by omega)]
        exact pc_nm i3 (f6 j hk)
      · exact en_old st_rfl hzb.1 q (i7 j (by omega))
theorem common2_ph {s : im_S} {f g : Int} {F G : List Int} {K : Nat} {ML MR : Nat → Nat → Nat} {C : Nat → Nat → Nat → Nat} {Inv : Nat → List Int → List Int → Prop} {Q : Int → im_S → Prop} (hf : pol s f F) (hg : pol s g G) (hI : Inv 0 F G) (hIn : ∀ p F G R, Inv p F G → 1 ≤ G.length → F.length ≤ 9 → G.length ≤ 9 → rr F G R → ∃ p', Inv p' G R ∧ R.length < G.length ∧ rco F.length G.length (ML p F.length) (MR p G.length) + (MR p G.length + 1) + C p' G.length R.length ≤ C p F.length G.length) (hB : ∀ p F G, Inv p F G → plb F (ML p F.length) ∧ plb G (MR p G.length) ∧ 1 ≤ F.length ∧ (∀ n, G.length = n + 1 → pgt G n ≠ 0) ∧ ML p F.length ≤ K ∧ MR p G.length ≤ K) (hCr : ∀ p F G, Inv p F G → 1 ≤ G.length → F.length ≤ 9 → G.length ≤ 9 → rco F.length G.length (ML p F.length) (MR p G.length) + (MR p G.length + 1) ≤ C p F.length G.length) (hC0 : ∀ p l, l ≤ 9 → 1 ≤ l → (∃ E, Inv p E [] ∧ E.length = l) → 1 + 3 * (l * (ML p l + 1)) ≤ C p l 0) (hp : wgf s 28 + G.length + 1 ≤ 1200) (h0 : 0 ≤ wgf s 24) (hm : wgf s 24 + C 0 F.length G.length + 200 * ((K : Int) + 1) + 100 ≤ 684000) (hQ : ∀ (h : Int) (s' : im_S) (p : Nat) (E R : List Int), ps s s' → wgf s' 28 ≤ wgf s 28 + G.length + 1 → wgf s 28 ≤ h → pol s' h R → Inv p E [] → cr 1 E R → wgf s' 24 ≤ wgf s 24 + C 0 F.length G.length → Q h s') : W_common2 f g s Q := by
  unfold W_common2
  refine ⟨fun a => ∃ (p : Nat) (F1 G1 : List Int), ps s a.2.2 ∧ wgf a.2.2 28 + G1.length ≤ wgf s 28 + G.length ∧ pol a.2.2 a.1 F1 ∧ pol a.2.2 a.2.1 G1 ∧ Inv p F1 G1 ∧ wgf a.2.2 24 + C p F1.length G1.length ≤ wgf s 24 + C 0 F.length G.length, fun a => (wga a.2.2 598 a.2.1 + 1).toNat, ⟨0, F, G, ps_rfl, Int.le_refl _, hf, hg, hI, Int.le_refl _⟩, ?_⟩
  rintro ⟨f1, g1, s2⟩ ⟨p, F1, G1, i1, i2, i3, i4, i5, i6⟩
  dsimp only at i1 i2 i3 i4 i5 i6 ⊢
  unfold W_common2_5
  obtain ⟨b1, b2, b3, b4, b5, b6⟩ := hB p F1 G1 i5
  have p1 := i3.1
  have p2 := i3.2.1
  have p3 := i3.2.2.1
  have p4 := i3.2.2.2.1
  have q1 := i4.1
  have q2 := i4.2.1
  have q4 := i4.2.2.2.1
  have q5 := i4.2.2.2.2.1
  have i13 := i1.2.2.1
  have i14 := i1.2.2.2
  refine ⟨⟨q1, by omega⟩, fun c => ⟨⟨p1, by omega⟩, ?_⟩, fun c => ?_⟩
  · have eG : G1 = [] := List.eq_nil_of_length_eq_zero (by omega)
    subst eG
    have c0 := hC0 p F1.length p4 b3 ⟨F1, i5, rfl⟩
    have ln : ([] : List Int).length = 0 := rfl
    rw [ln] at i6 i2
    have cst : ((F1.length * (ML p F1.length + 1) : Nat) : Int) = F1.length * ((ML p F1.length : Int) + 1) := by rw [Int.natCast_mul]; congr 1
    refine newPolynomial_ok (by omega) (by omega) (fun s3 a1 a2 a3 a4 a5 => ?_)
    have p3' := ps_pol a1 (by omega) i3
    refine common2_49b (s := s) (M := ML p F1.length) (ps_tr i1 a1) (by omega) (by omega) a2 (by omega) p3' b1 (by rw [a4]; exact i3.2.2.2.2.1) (by omega) (by omega) (fun s' R c1 c2 c3 c4 c5 => hQ _ s' p F1 R c1 (by omega) (by omega) c3 i5 c4 (by omega))
  · have hG1 : 1 ≤ G1.length := by omega
    have rl := rlm_le F1.length G1.length (ML p F1.length) (MR p G1.length)
    have rl2 : F1.length * (MR p G1.length + 1) ≤ 9 * (K + 1) := Nat.mul_le_mul p4 (by omega)
    have rc : rco F1.length G1.length (ML p F1.length) (MR p G1.length) + (MR p G1.length + 1) ≤ C p F1.length G1.length := hCr p F1 G1 i5 hG1 p4 q4
    refine restOf_ok i3 i4 b1 b2 b4 hG1 (by omega) (by omega) (by omega) (fun s3 R c1 c2 c3 c4 c5 c6 => ?_)
    obtain ⟨p', d1, lR, d3⟩ := hIn p F1 G1 R i5 hG1 p4 q4 c4
    have r5 := c3.2.2.2.2.1
    exact ⟨⟨p', G1, R, ps_tr i1 c1, by dsimp only; omega, ps_pol c1 (by dsimp only; omega) i4, c3, d1, by dsimp only; omega⟩, by dsimp only; rw [r5, q5]; omega⟩
def ctab : List (List (List Nat)) := [[[0, 0, 0, 0, 0, 0, 0, 0, 0, 0], [0, 57, 161, 341, 621, 1021, 1561, 2261, 3141, 4221], [0, 157, 193, 357, 617, 997, 1517, 2197, 3057, 4117], [0, 337, 353, 3180, 3404, 3744, 4224, 4864, 5684, 6704], [0, 617, 613, 3400, 6984, 7268, 7688, 8268, 9028, 9988], [0, 1017, 993, 3740, 7264, 11205, 11549, 12049, 12729, 13609], [0, 1557, 1513, 4220, 7684, 11545, 15855, 16259, 16839, 17619], [0, 2257, 2193, 4860, 8264, 12045, 16255, 23730, 24194, 24854], [0, 3137, 3053, 5680, 9024, 12725, 16835, 24190, 33905, 34429], [0, 4217, 4113, 6700, 9984, 13605, 17615, 24850, 34425, 46665]], [[0, 0, 0, 0, 0, 0, 0, 0, 0, 0], [0, 57, 0, 0, 0, 0, 0, 0, 0, 0], [0, 157, 193, 0, 0, 0, 0, 0, 0, 0], [0, 337, 353, 3180, 0, 0, 0, 0, 0, 0], [0, 617, 613, 3400, 6984, 0, 0, 0, 0, 0], [0, 1017, 993, 3740, 7264, 11205, 0, 0, 0, 0], [0, 1557, 1513, 4220, 7684, 11545, 15855, 0, 0, 0], [0, 2257, 2193, 4860, 8264, 12045, 16255, 23730, 0, 0], [0, 3137, 3053, 5680, 9024, 12725, 16835, 24190, 33905, 0], [0, 4217, 4113, 6700, 9984, 13605, 17615, 24850, 34425, 46665]], [[0, 0, 0, 0, 0, 0, 0, 0, 0, 0], [13, 39, 0, 0, 0, 0, 0, 0, 0, 0], [25, 109, 1571, 0, 0, 0, 0, 0, 0, 0], [37, 229, 3056, 5025, 0, 0, 0, 0, 0, 0], [49, 409, 5701, 6820, 9056, 0, 0, 0, 0, 0], [61, 659, 9791, 9860, 11001, 13264, 0, 0, 0, 0], [73, 989, 15611, 14390, 14196, 15199, 18606, 0, 0, 0], [85, 1409, 23446, 20655, 18846, 18309, 20371, 25953, 0, 0], [97, 1929, 33581, 28900, 25156, 22759, 23156, 27388, 34985, 0], [109, 2559, 46301, 39370, 33331, 28714, 27086, 29608, 35930, 45867]], [[0, 0, 0, 0, 0, 0, 0, 0, 0, 0], [7, 29, 0, 0, 0, 0, 0, 0, 0, 0], [343, 904, 2101, 0, 0, 0, 0, 0, 0, 0], [442, 1579, 4181, 5700, 0, 0, 0, 0, 0, 0], [493, 2259, 7366, 8115, 9796, 0, 0, 0, 0, 0], [496, 2834, 11821, 11600, 12306, 13989, 0, 0, 0, 0], [451, 3194, 17711, 16280, 15771, 16354, 19236, 0, 0, 0], [358, 3229, 25201, 22280, 20276, 19479, 21216, 26408, 0, 0], [217, 2829, 34456, 29725, 25906, 23409, 23681, 27763, 35185, 0], [28, 1884, 45641, 38740, 32746, 28189, 26636, 29248, 35675, 45732]]]
def ctC (p l m : Nat) : Nat := ((ctab.getD p []).getD l []).getD m 0
def mbl (l : Nat) : Nat := if l = 1 then 1 else 4 * (18 - 2 * l)
def mML (p l : Nat) : Nat := if p ≤ 2 then 3 else mbl l
def mMR (p l : Nat) : Nat := if p ≤ 1 then 3 else mbl l
theorem ct_3 : ∀ l, l < 10 → ∀ m, m < 10 → ∀ k, k < 10 → (1 ≤ m ∧ m ≤ l ∧ k < m) → rco l m (mbl l) (mbl m) + (mbl m + 1) + ctC 3 m k ≤ ctC 3 l m := by decide +kernel
theorem ct_2 : ∀ l, l < 10 → ∀ m, m < 10 → ∀ k, k < 10 → (1 ≤ m ∧ m ≤ l ∧ k < m) → rco l m 3 (mbl m) + (mbl m + 1) + ctC 3 m k ≤ ctC 2 l m := by decide +kernel
theorem ct_1 : ∀ l, l < 10 → ∀ m, m < 10 → ∀ k, k < 10 → (1 ≤ m ∧ m ≤ l ∧ k < m) → rco l m 3 3 + (3 + 1) + ctC 2 m k ≤ ctC 1 l m := by decide +kernel
theorem ct_0 : ∀ l, l < 10 → ∀ m, m < 10 → ((1 ≤ l ∧ 1 ≤ m ∧ m ≤ l) → ctC 0 l m = ctC 1 l m) ∧ ((1 ≤ l ∧ l < m) → rco l m 3 3 + (3 + 1) + ctC 1 m l ≤ ctC 0 l m) := by decide +kernel
theorem ct_z : ∀ l, l < 10 → 1 ≤ l → 1 + 3 * (l * (mbl l + 1)) ≤ ctC 3 l 0 ∧ 1 + 3 * (l * (3 + 1)) ≤ ctC 2 l 0 := by decide +kernel
theorem ct_d : ∀ l, l < 10 → ∀ m, m < 10 → ctC 0 l m ≤ 5834 * (l - 1) + 4221 ∧ (2 ≤ l → ctC 0 l m ≤ 5834 * (l - 1)) ∧ ctC 0 l m ≤ 46665 := by decide +kernel
/-- less than 10 to the power 27 -/
def p27 : Nat := 999999999999999999999999999
theorem pab_lb {P : List Int} (h : pab P p27) : plb P 3 := fun k => lim_le (Nat.lt_of_le_of_lt (h k) (by decide))
theorem one_lb {R : List Int} (h : prm1 R) (hl : R.length = 1) : plb R 1 := fun k => by
  cases k with
  | zero =>
    have q := h (pgt R 0) (fun k => by
      cases k with
      | zero => exact Int.dvd_refl _
      | succ k => rw [pgt_hi R (k + 1) (by omega)]; exact Int.dvd_zero _)
    have q2 := Int.natAbs_dvd_natAbs.2 q
    have q3 := Nat.dvd_one.1 q2
    exact lim_le (by rw [q3]; decide)
  | succ k => rw [pgt_hi R (k + 1) (by omega)]; decide
theorem rest_lb {A B X Y R : List Int} (hA : lnz A) (hB : lnz B) (HA : pab A p27) (HB : pab B p27) (lA : A.length ≤ 9) (lB : B.length ≤ 9) (h : eu A B X Y) (hY : 1 ≤ Y.length) (hr : rr X Y R) : plb R (mbl R.length) := by
  by_cases hR : R = []
  · rw [hR]
    intro k
    show lim 0 ≤ _
    rw [lim_zero]; omega
  have st1 := eu_step h hY hr
  have R1 : 1 ≤ R.length := by
    rcases Nat.eq_zero_or_pos R.length with q | q
    · exact absurd (List.eq_nil_of_length_eq_zero q) hR
    · exact q
  have lY : Y.length ≤ B.length := h.2.2.2.2.2.2.2.1
  by_cases c1 : R.length = 1
  · rw [c1]
    exact one_lb (st1.2.2.2.2.2.1 hR) c1
  · intro k
    have b := eu_bound hA hB HA HB (by decide) h hY hr hR k
    have e : mbl R.length = 4 * (18 - 2 * R.length) := if_neg c1
    rw [e]
    obtain ⟨N, hN⟩ : ∃ N, N = 18 - 2 * R.length := ⟨_, rfl⟩
    have l1 := st1.1
    have b2 := pw_nn (m := A.length + B.length - 2 * R.length) (n := N) (H := p27) (by omega) (by decide) (by omega)
    refine lim_le (Nat.lt_of_le_of_lt (Nat.le_trans b b2) ?_)
    rw [← hN, Nat.pow_mul]
    refine Nat.pow_lt_pow_left ?_ (by omega)
    have q : N * p27 ≤ 18 * p27 := Nat.mul_le_mul_right _ (by omega)
    refine Nat.lt_of_le_of_lt q (by decide)
