/-! findAll BY VALUE: the order -/
def ORD (s : im_S) (r : Nat) (ds : Nat → Rat → Int) (od : Nat → Nat) : Prop := (∀ k : Nat, k < r → od k < r ∧ wga s 614 (k : Int) = (od k : Int)) ∧ (∀ k k' : Nat, k < k' → k' < r → lft9 (ds (od k)) (ds (od k'))) ∧ ∀ R : Nat, R < r → ∃ k : Nat, k < r ∧ od k = R
theorem ORD_put {s s4 : im_S} {r k n : Nat} {ds : Nat → Rat → Int} {od : Nat → Nat} (ho : (∀ k : Nat, k < r → od k < r) ∧ (∀ k k' : Nat, k < k' → k' < r → lft9 (ds (od k)) (ds (od k'))) ∧ ∀ R : Nat, R < r → ∃ k : Nat, k < r ∧ od k = R) (hr : r < n) (hcut : ∀ R, R < n → cut (ds R)) (kr : k ≤ r) (a1 : ∀ j : Nat, j < k → wga s 614 (j : Int) = (od j : Int)) (a2 : ∀ j : Nat, k < j → j ≤ r → wga s 614 (j : Int) = (od (j - 1) : Int)) (a3 : ∀ j : Nat, k ≤ j → j < r → lft9 (ds r) (ds (od j))) (a4 : k = 0 ∨ lft9 (ds (od (k - 1))) (ds r)) (e4 : s4 = wpa s 614 (k : Int) (r : Int)) : ORD s4 (r + 1) ds (fun j => if j < k then od j else if j = k then r else od (j - 1)) := by
  obtain ⟨o1, o2, o3⟩ := ho
  refine ⟨fun j hj => ?_, fun j j' jj hj' => ?_, fun R hR => ?_⟩
  · try dsimp only
    rw [e4]
    by_cases c : j < k
    · rw [if_pos c, wg_ne (by omega) (by omega) (by omega), a1 j c]
      exact ⟨by have := o1 j (by omega); omega, rfl⟩
    · rw [if_neg c]
      by_cases d : j = k
      · subst d
        rw [if_pos rfl]
        exact ⟨by omega, wg_same⟩
      · rw [if_neg d, wg_ne (by omega) (by omega) (by omega), a2 j (by omega) (by omega)]
        exact ⟨by have := o1 (j - 1) (by omega); omega, rfl⟩
  · try dsimp only
    have lk : ∀ j, j < k → lft9 (ds (od j)) (ds r) := fun j hj => by
      rcases a4 with q | q
      · omega
      · by_cases e : j = k - 1
        · rw [e]; exact q
        · exact lft9_tr (hcut _ (by have := o1 j (by omega); omega)) (hcut _ (by have := o1 (k - 1) (by omega); omega)) (o2 j (k - 1) (by omega) (by omega)) q
    by_cases c : j < k
    · rw [if_pos c]
      by_cases c' : j' < k
      · rw [if_pos c']; exact o2 j j' jj (by omega)
      · rw [if_neg c']
        by_cases d' : j' = k
        · rw [if_pos d']; exact lk j c
        · rw [if_neg d']; exact o2 j (j' - 1) (by omega) (by omega)
    · rw [if_neg c, if_neg (show ¬ j' < k by omega), if_neg (show ¬ j' = k by omega)]
      by_cases d : j = k
      · rw [if_pos d]; exact a3 (j' - 1) (by omega) (by omega)
      · rw [if_neg d]; exact o2 (j - 1) (j' - 1) (by omega) (by omega)
  · by_cases c : R = r
    · exact ⟨k, by omega, by (try dsimp only); rw [if_neg (by omega), if_pos rfl, c]⟩
    · obtain ⟨j, j1, j2⟩ := o3 R (by omega)
      by_cases d : j < k
      · exact ⟨j, by omega, by (try dsimp only); rw [if_pos d]; exact j2⟩
      · exact ⟨j + 1, by omega, by (try dsimp only); rw [if_neg (by omega), if_neg (by omega), Nat.add_sub_cancel]; exact j2⟩
theorem ord_114c {s0 s : im_S} {n r : Nat} {f : Nat → Int} {F : Nat → List Int} {lo hi : Nat → Rat} {ds : Nat → Rat → Int} {od : Nat → Nat} {K104 : Int × im_S → Prop} {Q : im_S → Prop} (h24 : 0 ≤ wgf s0 24 ∧ wgf s0 24 ≤ 100000) (hp : ∀ R1 R2 : Nat, R1 < n → R2 < n → R1 ≠ R2 → wga s0 609 (R1 : Int) = 0 → wga s0 609 (R2 : Int) = 0 → hi R1 ≤ lo R2 ∨ hi R2 ≤ lo R1 ∨ cop (F R1) (F R2)) (hcut : ∀ R, R < n → cut (ds R)) (hinj : ∀ R R' : Nat, R < n → R' < n → ds R = ds R' → R = R') (hkc : ∀ R : Nat, R < n → rkc s0 R (F R) (lo R) (hi R) (ds R)) (h1 : rfo s0 s) (h2 : rkl s n f F lo hi) (hr : r < n) (ho : ORD s r ds od) (hK : ∀ (s' : im_S) (od' : Nat → Nat), rfo s0 s' → rkl s' n f F lo hi → ORD s' (r + 1) ds od' → K104 (((r + 1 : Nat) : Int), s')) : wloop (fun (K : Int × im_S → Prop) (a : Int × im_S) => W_findAll_114 K104 K (r : Int) a.1 a.2 Q) ((r : Int), s) := by
  have n80 := h2.1
  obtain ⟨o1, o2, o3⟩ := ho
  refine ⟨fun a => rfo s0 a.2 ∧ rkl a.2 n f F lo hi ∧ ∃ k : Nat, a.1 = k ∧ k ≤ r ∧ (∀ j : Nat, j < k → wga a.2 614 (j : Int) = (od j : Int)) ∧ (∀ j : Nat, k < j → j ≤ r → wga a.2 614 (j : Int) = (od (j - 1) : Int)) ∧ ∀ j : Nat, k ≤ j → j < r → lft9 (ds r) (ds (od j)), fun a => a.1.toNat, ⟨h1, h2, r, rfl, Nat.le_refl _, fun j hj => (o1 j hj).2, fun j j1 j2 => by omega, fun j j1 j2 => by omega⟩, ?_⟩
  rintro ⟨l2, s2⟩ ⟨i1, i2, k, i3, i4, i5, i6, i7⟩
  dsimp only at i1 i2 i3 i5 i6 i7 ⊢
  subst i3
  have e24 := rfo_f i1 24 (by decide)
  have put : ∀ s3 : im_S, rfo s0 s3 → rkl s3 n f F lo hi → (∀ j : Nat, j < k → wga s3 614 (j : Int) = (od j : Int)) → (∀ j : Nat, k < j → j ≤ r → wga s3 614 (j : Int) = (od (j - 1) : Int)) → (k = 0 ∨ lft9 (ds (od (k - 1))) (ds r)) → W_findAll_154 K104 (r : Int) (k : Int) s3 Q := fun s3 a1 a2 a3 a4 a5 => by
    unfold W_findAll_154
    refine ⟨by omega, fun s4 e4 => ⟨by unfold iR; omega, ?_⟩⟩
    have w : rwr [614] s3 s4 := by rw [e4]; exact rwr_pa rwr_rfl (by decide)
    have z := hK s4 _ (by rw [e4]; exact rfo_pa a1) ⟨n80, fun R hR => rwr_rk w (fun c hc => by simp at hc; omega) (a2.2 R hR)⟩ (ORD_put ⟨fun j hj => (o1 j hj).1, o2, o3⟩ hr hcut i4 a3 a4 i7 a5 e4)
    rw [show ((r + 1 : Nat) : Int) = (r : Int) + 1 by omega] at z
    exact z
  unfold W_findAll_114
  refine ⟨fun c => put s2 i1 i2 i5 i6 (Or.inl (by omega)), fun c => ⟨by omega, ?_⟩⟩
  have ek : (k : Int) - 1 = ((k - 1 : Nat) : Int) := by omega
  rw [ek]
  have hR := (o1 (k - 1) (by omega)).1
  rw [i5 (k - 1) (by omega)]
  have row : ∀ (c : Nat) (i : Int), c ≠ 597 → c ≠ 612 → c ≠ 614 → wga s2 c i = wga s0 c i := fun c i q1 q2 q3 => rfo_r i1 c i q1 q2 q3
  have kc : ∀ R : Nat, R < n → rkc s2 R (F R) (lo R) (hi R) (ds R) := fun R hR => rkc_co (hkc R hR) (row 608 _ (by decide) (by decide) (by decide)) (row 609 _ (by decide) (by decide) (by decide))
  refine isBefore_v i2 hr (by omega) (by omega) (fun z1 z2 => hp r (od (k - 1)) hr (by omega) (by omega) (by rw [row 609 _ (by decide) (by decide) (by decide)] at z1; exact z1) (by rw [row 609 _ (by decide) (by decide) (by decide)] at z2; exact z2)) (by omega) (by omega) (hcut r hr) (hcut _ (by omega)) (kc r hr) (kc _ (by omega)) (fun e => by have := hinj r (od (k - 1)) hr (by omega) e; omega) (fun v s3 b1 b2 bv => ?_)
  have b3 := rfo_tr i1 (rfq_rfo b1)
  have b4 : ∀ j : Int, wga s3 614 j = wga s2 614 j := fun j => rfq_row b1 _ _ (by decide) (by decide)
  refine ⟨fun v0 => put s3 b3 b2 (fun j hj => by rw [b4]; exact i5 j hj) (fun j j1 j2 => by rw [b4]; exact i6 j j1 j2) (Or.inr ?_), fun v1 => ⟨by omega, by omega, fun s4 e4 => ⟨by unfold iR; omega, ⟨?_, ?_, k - 1, by omega, by omega, fun j hj => ?_, fun j j1 j2 => ?_, fun j j1 j2 => ?_⟩, by (try dsimp only); omega⟩⟩⟩
  · rcases bv with w | w
    · omega
    · exact w.2
  · (try dsimp only); rw [e4]; exact rfo_pa b3
  · have w : rwr [614] s3 s4 := by rw [e4]; exact rwr_pa rwr_rfl (by decide)
    exact ⟨n80, fun R hR => rwr_rk w (fun c hc => by simp at hc; omega) (b2.2 R hR)⟩
  · try dsimp only
    rw [e4, wg_ne (by omega) (by omega) (by omega), b4]
    exact i5 j (by omega)
  · try dsimp only
    rw [e4]
    by_cases q : j = k
    · subst q
      rw [wg_same, b4]
      exact i5 (j - 1) (by omega)
    · rw [wg_ne (by omega) (by omega) (by omega), b4]
      exact i6 j (by omega) j2
  · by_cases q : j = k - 1
    · subst q
      rcases bv with w | w
      · exact w.2
      · omega
    · exact i7 j (by omega) j2
/-- what the reference holds behind findAll: bases, times, roots as cuts, rising -/
def RVl (s : im_S) (A : Nat → List Int) (m n nb : Nat) (b : Nat → List Int) (T : Nat → Nat → Nat) (f : Nat → Int) (F : Nat → List Int) (lo hi : Nat → Rat) (ds : Nat → Rat → Int) (od : Nat → Nat) : Prop := rdy s n nb f F lo hi ∧ (∀ e : Nat, e < nb → wga s 598 (wga s 602 (e : Int)) = ((b e).length : Int) - 1 ∧ gd (b e)) ∧ SYS A m nb b T ∧ (∀ e i : Nat, e < nb → i < 10 → wga s 606 ((10 * e + i : Nat) : Int) = (T e i : Int)) ∧ rqc s nb b n F lo hi ds ∧ ORD s n ds od
theorem ORD_co {s s' : im_S} {r : Nat} {ds : Nat → Rat → Int} {od : Nat → Nat} (h : ORD s r ds od) (e : ∀ k : Nat, wga s' 614 (k : Int) = wga s 614 (k : Int)) : ORD s' r ds od := ⟨fun k hk => by rw [e k]; exact h.1 k hk, h.2⟩
theorem RVl_co {s s' : im_S} {A : Nat → List Int} {m n nb : Nat} {b : Nat → List Int} {T : Nat → Nat → Nat} {f : Nat → Int} {F : Nat → List Int} {lo hi : Nat → Rat} {ds : Nat → Rat → Int} {od : Nat → Nat} (h : RVl s A m n nb b T f F lo hi ds od) (hd : rdy s' n nb f F lo hi) (e : ∀ (c : Nat) (i : Int), c = 598 ∨ c = 602 ∨ c = 606 ∨ c = 607 ∨ c = 608 ∨ c = 609 ∨ c = 614 → wga s' c i = wga s c i) : RVl s' A m n nb b T f F lo hi ds od := by
  obtain ⟨_, h2, h3, h4, h5, h6⟩ := h
  refine ⟨hd, fun k hk => ?_, h3, fun k i hk hi => ?_, rqc_co h5 (fun c R _ hc => e c _ (by omega)), ORD_co h6 (fun k => e 614 _ (by omega))⟩
  · rw [e 602 _ (by omega), e 598 _ (by omega)]; exact h2 k hk
  · rw [e 606 _ (by omega)]; exact h4 k i hk hi
theorem RVl_rfq {s s' : im_S} {A : Nat → List Int} {m n nb : Nat} {b : Nat → List Int} {T : Nat → Nat → Nat} {f : Nat → Int} {F : Nat → List Int} {lo hi : Nat → Rat} {ds : Nat → Rat → Int} {od : Nat → Nat} (h : RVl s A m n nb b T f F lo hi ds od) (g : rfq s s') (hk : rkl s' n f F lo hi) : RVl s' A m n nb b T f F lo hi ds od := RVl_co h (rdy_rfq g hk h.1) (fun c i hc => rfq_row g c i (by omega) (by omega))
theorem ord_104c {s0 s : im_S} {n nb m : Nat} {b : Nat → List Int} {f : Nat → Int} {F : Nat → List Int} {lo hi : Nat → Rat} {A : Nat → List Int} {ma : Nat} {T : Nat → Nat → Nat} {ds : Nat → Rat → Int} {Q : im_S → Prop} (hq : rq s nb b n f F lo hi) (hb : bi s nb b) (h24 : 0 ≤ wgf s 24 ∧ wgf s 24 ≤ 100000) (hnb : nb ≤ 80) (h6 : 0 ≤ wgf s 6 ∧ wgf s 6 ≤ 10) (h606 : ∀ i : Nat, i < 2000 → 0 ≤ wga s 606 (i : Int) ∧ wga s 606 (i : Int) ≤ 8) (h584 : ∀ i : Nat, (i : Int) < 9 * wgf s 6 → -1000000000 ≤ wga s 584 (i : Int) ∧ wga s 584 (i : Int) ≤ 1000000000) (h10 : wgf s 10 = m) (hm : mok s m) (hfa : fa s0 s) (hS : SYS A ma nb b T) (hT : ∀ e i : Nat, e < nb → i < 10 → wga s 606 ((10 * e + i : Nat) : Int) = (T e i : Int)) (hds : rqc s nb b n F lo hi ds) (hQ : ∀ (s' : im_S) (od : Nat → Nat), fa s0 s' → RVl s' A ma n nb b T f F lo hi ds od → Q s') : wloop (fun (K : Int × im_S → Prop) (a : Int × im_S) => W_findAll_104 K a.1 a.2 Q) (0, s) := by
  have n80 := hq.1.1
  have e41 := hq.2.1
  have hp : ∀ R1 R2 : Nat, R1 < n → R2 < n → R1 ≠ R2 → wga s 609 (R1 : Int) = 0 → wga s 609 (R2 : Int) = 0 → hi R1 ≤ lo R2 ∨ hi R2 ≤ lo R1 ∨ cop (F R1) (F R2) := fun R1 R2 a1 a2 a3 a4 a5 => rq_pair hq hb.2.2 (Nat.le_refl _) a1 a2 a3 a4 a5
  refine ⟨fun a => rfo s a.2 ∧ rkl a.2 n f F lo hi ∧ ∃ (r : Nat) (od : Nat → Nat), a.1 = r ∧ r ≤ n ∧ ORD a.2 r ds od, fun a => (n - a.1).toNat, ⟨rfo_rfl, hq.1, 0, fun _ => 0, rfl, by first | omega | (dsimp only; omega), fun k hk => absurd hk (Nat.not_lt_zero k), fun k k' _ hk => absurd hk (Nat.not_lt_zero k'), fun k hk => absurd hk (Nat.not_lt_zero k)⟩, ?_⟩
  rintro ⟨l1, s2⟩ ⟨i1, i2, r, od, i3, i4, i5⟩
  dsimp only at i1 i2 i3 i5 ⊢
  subst i3
  have q41 := rfo_f i1 41 (by first | decide | omega | (dsimp only; omega) | (dsimp only; decide))
  unfold W_findAll_104
  rw [q41, e41]
  refine ⟨fun c => ?_, fun c => ord_114c h24 hp (fun R hR => (hds.1 R hR).1) hds.2.2 (fun R hR => (hds.1 R hR).2.1) i1 i2 (by first | omega | (dsimp only; omega)) i5 (fun s' od' a1 a2 a3 => ⟨⟨a1, a2, r + 1, od', rfl, by first | omega | (dsimp only; omega), a3⟩, by first | omega | (dsimp only; omega)⟩)⟩
  have er : r = n := by first | omega | (dsimp only; omega)
  rw [er] at i5
  have rr := fun c i h1 h2 h3 => rfo_r i1 c i h1 h2 h3
  have rf := fun f hf => rfo_f i1 f hf
  have rd2 : rdy s2 n nb f F lo hi := by
    refine ⟨i2, by rw [q41]; exact e41, by rw [rf 34 (by first | decide | omega | (dsimp only; omega) | (dsimp only; decide))]; exact hb.1, hnb, by rw [rf 24 (by first | decide | omega | (dsimp only; omega) | (dsimp only; decide))]; exact h24, by rw [rf 6 (by first | decide | omega | (dsimp only; omega) | (dsimp only; decide))]; exact h6, fun k hk => ⟨od k, i5.1 k hk⟩, fun R hR => ?_, fun i hi => ?_, fun j hj => ?_, fun i hi => ?_⟩
    · rw [rr 607 _ (by first | decide | omega | (dsimp only; omega) | (dsimp only; decide)) (by first | decide | omega | (dsimp only; omega) | (dsimp only; decide)) (by first | decide | omega | (dsimp only; omega) | (dsimp only; decide))]
      obtain ⟨j, j1, j2, _⟩ := hq.2.2.2.2.1 R hR
      omega
    · rw [rr 606 _ (by first | decide | omega | (dsimp only; omega) | (dsimp only; decide)) (by first | decide | omega | (dsimp only; omega) | (dsimp only; decide)) (by first | decide | omega | (dsimp only; omega) | (dsimp only; decide))]; exact h606 i hi
    · rw [rr 602 _ (by first | decide | omega | (dsimp only; omega) | (dsimp only; decide)) (by first | decide | omega | (dsimp only; omega) | (dsimp only; decide)) (by first | decide | omega | (dsimp only; omega) | (dsimp only; decide)), rr 598 _ (by first | decide | omega | (dsimp only; omega) | (dsimp only; decide)) (by first | decide | omega | (dsimp only; omega) | (dsimp only; decide)) (by first | decide | omega | (dsimp only; omega) | (dsimp only; decide))]
      obtain ⟨⟨p1, p2, p3, p4, p5, _⟩, _, _, p6, _⟩ := hb.2.1 j hj
      exact ⟨by first | omega | (dsimp only; omega), by first | omega | (dsimp only; omega), by first | omega | (dsimp only; omega)⟩
    · rw [rf 6 (by first | decide | omega | (dsimp only; omega) | (dsimp only; decide))] at hi
      rw [rr 584 _ (by first | decide | omega | (dsimp only; omega) | (dsimp only; decide)) (by first | decide | omega | (dsimp only; omega) | (dsimp only; decide)) (by first | decide | omega | (dsimp only; omega) | (dsimp only; decide))]; exact h584 i hi
  refine signAll_ok rd2 (by rw [rf 10 (by first | decide | omega | (dsimp only; omega) | (dsimp only; decide))]; exact h10) (mok_co (fun i _ => rr 586 _ (by first | decide | omega | (dsimp only; omega) | (dsimp only; decide)) (by first | decide | omega | (dsimp only; omega) | (dsimp only; decide)) (by first | decide | omega | (dsimp only; omega) | (dsimp only; decide))) hm) (fun s3 b1 b2 => hQ s3 od (fa_tr hfa (fa_tr (rfo_fa i1) ⟨fun c f _ => by rw [b1.1], fun c i q => b1.2 c i (fun z => q ?_)⟩)) (RVl_co ⟨rd2, fun e he => ?_, hS, fun e i he hi => ?_, rqc_co hds (fun c R _ hc => rr c _ (by omega) (by omega) (by omega)), i5⟩ b2 (fun c i hc => rwr_r b1 c i (fun z => by simp at z; omega))))
  · simp at z
    omega
  · rw [rr 602 _ (by decide) (by decide) (by decide), rr 598 _ (by decide) (by decide) (by decide)]
    obtain ⟨⟨p1, p2, p3, p4, p5, _⟩, p6⟩ := hb.2.1 e he
    exact ⟨p5, p6.1.1⟩
  · rw [rr 606 _ (by decide) (by decide) (by decide)]
    exact hT e i he hi
theorem all_83c {s0 s : im_S} {nb m : Nat} {b : Nat → List Int} {A : Nat → List Int} {ma : Nat} {T : Nat → Nat → Nat} {Q : im_S → Prop} (hb : bi s nb b) (hd : dsm b nb ≤ 80) (h24 : 0 ≤ wgf s 24 ∧ wgf s 24 ≤ 9000) (h28 : 0 ≤ wgf s 28 ∧ wgf s 28 ≤ 240) (h41 : wgf s 41 = 0) (h52 : wgf s 52 = 0) (h6 : 0 ≤ wgf s 6 ∧ wgf s 6 ≤ 10) (h606 : ∀ i : Nat, i < 2000 → 0 ≤ wga s 606 (i : Int) ∧ wga s 606 (i : Int) ≤ 8) (h584 : ∀ i : Nat, (i : Int) < 9 * wgf s 6 → -1000000000 ≤ wga s 584 (i : Int) ∧ wga s 584 (i : Int) ≤ 1000000000) (h10 : wgf s 10 = m) (hm : mok s m) (hfa : fa s0 s) (hS : SYS A ma nb b T) (hT : ∀ e i : Nat, e < nb → i < 10 → wga s 606 ((10 * e + i : Nat) : Int) = (T e i : Int)) (hQ : ∀ (s' : im_S) (n : Nat) (f : Nat → Int) (F : Nat → List Int) (lo hi : Nat → Rat) (ds : Nat → Rat → Int) (od : Nat → Nat), fa s0 s' → RVl s' A ma n nb b T f F lo hi ds od → Q s') : wloop (fun (K : Int × im_S → Prop) (a : Int × im_S) => W_findAll_83 K a.1 a.2 Q) (0, s) := by
  have nb80 : nb ≤ 80 := by
    have := dsm_n (c := b) (n := nb) (fun k hk => (hb.2.1 k hk).2.2.2.1)
    omega
  refine ⟨fun a => fa s0 a.2 ∧ fa s a.2 ∧ (∀ i : Nat, wga a.2 606 (i : Int) = wga s 606 (i : Int)) ∧ ∃ l : Nat, a.1 = l ∧ l ≤ nb ∧ bi a.2 nb b ∧ (0 ≤ wgf a.2 24 ∧ wgf a.2 24 ≤ 9000 + 40 * l) ∧ (0 ≤ wgf a.2 28 ∧ wgf a.2 28 ≤ 240 + l) ∧ ∃ (n : Nat) (f : Nat → Int) (F : Nat → List Int) (lo hi : Nat → Rat) (ds : Nat → Rat → Int), rq a.2 l b n f F lo hi ∧ rqc a.2 l b n F lo hi ds, fun a => (nb - a.1).toNat, ⟨hfa, fa_rfl, fun _ => rfl, 0, rfl, by first | omega | (dsimp only; omega), hb, by first | omega | (dsimp only; omega), by first | omega | (dsimp only; omega), 0, fun _ => 0, fun _ => [], fun _ => 0, fun _ => 0, fun _ _ => 0, ⟨⟨by first | omega | (dsimp only; omega), fun R hR => absurd hR (Nat.not_lt_zero R)⟩, h41, h52, by first | omega | (dsimp only; omega), fun R hR => absurd hR (Nat.not_lt_zero R), fun R R' _ hR' => absurd hR' (Nat.not_lt_zero R')⟩, fun R hR => absurd hR (Nat.not_lt_zero R), fun j hj => absurd hj (Nat.not_lt_zero j), fun R R' hR => absurd hR (Nat.not_lt_zero R)⟩, ?_⟩
  rintro ⟨l1, s2⟩ ⟨i1, i2, i3, l, i4, i5, i6, i7, i8, n, f, F, lo, hi, ds, i9, i10⟩
  dsimp only at i1 i2 i3 i4 i6 i7 i8 i9 i10 ⊢
  subst i4
  have e6 := fa_f i2 6 (by first | decide | omega | (dsimp only; omega) | (dsimp only; decide))
  have e10 := fa_f i2 10 (by first | decide | omega | (dsimp only; omega) | (dsimp only; decide))
  have e34 : wgf s2 34 = nb := i6.1
  unfold W_findAll_83
  rw [e34]
  refine ⟨fun c => ?_, fun c => ?_⟩
  · have el : l = nb := by first | omega | (dsimp only; omega)
    rw [el] at i9 i10
    exact ord_104c i9 i6 (by first | omega | (dsimp only; omega)) nb80 (by first | omega | (dsimp only; omega)) (fun i hi => by rw [i3]; exact h606 i hi) (fun i hi => by rw [e6] at hi; rw [fa_r i2 _ _ (by first | decide | omega | (dsimp only; omega) | (dsimp only; decide))]; exact h584 i hi) (by first | omega | (dsimp only; omega)) (mok_co (fun i _ => fa_r i2 _ _ (by first | decide | omega | (dsimp only; omega) | (dsimp only; decide))) hm) i1 hS (fun e i he hi => by rw [i3]; exact hT e i he hi) i10 (fun s' od a1 a2 => hQ s' n f F lo hi ds od a1 a2)
  · obtain ⟨p1, p2⟩ := i6.2.1 l (by first | omega | (dsimp only; omega))
    have dl : dsm b (l + 1) ≤ 80 := by
      have := dsm_mo (c := b) (n := l + 1) (m := nb - (l + 1))
      rw [show l + 1 + (nb - (l + 1)) = nb by first | omega | (dsimp only; omega)] at this
      omega
    have dl2 : dsm b (l + 1) = dsm b l + ((b l).length - 1) := rfl
    have b2 := p2.2.2.1
    have nl := i9.2.2.2.1
    refine findRoots_okc (R0 := n) (by first | omega | (dsimp only; omega)) p1 p2 (by first | omega | (dsimp only; omega)) i9.2.1 i9.2.2.1 (by first | omega | (dsimp only; omega)) (by first | omega | (dsimp only; omega)) (by first | omega | (dsimp only; omega)) (fun s3 c N k lf rf Lmin Rend g G a1 a2 a3 a4 a5 a6 a7 a8 a9 a10 a11 a12 a14 a15 => ?_)
    have nzb : nzp (b l) := ⟨(b l).length - 1, p2.1.1.2.2.1 _ (by omega)⟩
    have ex : ∀ r : Nat, ∃ (lo hi : Rat) (y : Rat → Int), r < k → ((lf r ≤ lo ∧ hi ≤ rf r) ∧ cut y ∧ rtc (b l) y ∧ (y (lf r) = 1 ∧ y (rf r) ≠ 1) ∧ rkc s3 (n + r) G lo hi y ∧ (wga s3 609 ((n + r : Nat) : Int) = 0 → rti s3 ((n + r : Nat) : Int) g G lo hi)) := fun r => by
      by_cases hrk : r < k
      · obtain ⟨x1, x2, x3, x4⟩ := cut_r a5 a6 p2.2.1 nzb a7 a14.2 a9 a11 hrk
        exact ⟨x1, x2, x3, fun _ => x4⟩
      · exact ⟨0, 0, fun _ => 0, fun w => absurd w hrk⟩
    obtain ⟨lf', ex⟩ := Classical.axiomOfChoice ex
    obtain ⟨rf', ex⟩ := Classical.axiomOfChoice ex
    obtain ⟨cs, ex⟩ := Classical.axiomOfChoice ex
    have a13 := rq_stepc i9 a1 a3.1 a2.1 (by first | omega | (dsimp only; omega)) a4 (by first | omega | (dsimp only; omega)) p2.1 a7 a9 a10 (lf' := lf') (rf' := rf') (fun r hr => (ex r hr).1) (fun r hr => (ex r hr).2.2.2.2.2)
    have a16 := rqc_step (s' := s3) (k := k) (G := G) (lf := lf) (rf := rf) (lf' := lf') (rf' := rf') (cs := cs) i10 (fun c R hR hc => a1.2 c (R : Int).toNat (by omega) (by omega) (by omega) (by omega) (by omega) (by omega) (by omega) (by omega)) (fun j hj => i6.2.2 j l hj (by omega)) (fun r hr => (a7.2.2.1 r hr).1.1) (fun r hr => ⟨(ex r hr).2.1, (ex r hr).2.2.1, (ex r hr).2.2.2.1, (ex r hr).2.2.2.2.1⟩) a7.2.2.2.1 (fun y cy ty => by
      obtain ⟨y1, y2⟩ := a15 y cy ty
      obtain ⟨r, r1, r2, r3⟩ := a14.1 y cy ty y1 (by omega)
      have z := ex r r1
      exact ⟨r, r1, sturm_one a5 cy z.2.1 (by rw [a6]; exact ty) (by rw [a6]; exact z.2.2.1) r2 r3 z.2.2.2.1.1 z.2.2.2.1.2 (by have := a14.2 r r1; omega)⟩)
    have m1 := fro_fa a1
    refine ⟨by unfold iR; first | omega | (dsimp only; omega), ⟨fa_tr i1 m1, fa_tr i2 m1, fun i => ?_, l + 1, by first | omega | (dsimp only; omega), by first | omega | (dsimp only; omega), ⟨?_, fun j hj => ?_, i6.2.2⟩, by first | omega | (dsimp only; omega), by first | omega | (dsimp only; omega), n + k, _, _, _, _, _, a13, a16⟩, by first | omega | (dsimp only; omega)⟩
    · rw [← i3 i]
      exact a1.2 606 (i : Int).toNat (by first | omega | (dsimp only; omega)) (by first | omega | (dsimp only; omega)) (by first | omega | (dsimp only; omega)) (by first | decide | omega | (dsimp only; omega) | (dsimp only; decide)) (by first | decide | omega | (dsimp only; omega) | (dsimp only; decide)) (by first | omega | (dsimp only; omega)) (by first | decide | omega | (dsimp only; omega) | (dsimp only; decide)) (by first | decide | omega | (dsimp only; omega) | (dsimp only; decide))
    · have : wgf s3 34 = wgf s2 34 := a1.1 582 34 (by first | omega | (dsimp only; omega))
      rw [this]; exact e34
    · have r2 : wga s3 602 (j : Int) = wga s2 602 (j : Int) := a1.2 602 (j : Int).toNat (by first | omega | (dsimp only; omega)) (by first | omega | (dsimp only; omega)) (by first | omega | (dsimp only; omega)) (by first | decide | omega | (dsimp only; omega) | (dsimp only; decide)) (by first | decide | omega | (dsimp only; omega) | (dsimp only; decide)) (by first | omega | (dsimp only; omega)) (by first | decide | omega | (dsimp only; omega) | (dsimp only; decide)) (by first | decide | omega | (dsimp only; omega) | (dsimp only; decide))
      obtain ⟨u1, u2⟩ := i6.2.1 j hj
      refine ⟨?_, u2⟩
      try dsimp only
      rw [r2]
      exact fro_pol a1 a3.1 a2.1 (by first | omega | (dsimp only; omega)) u1
theorem all_53c {s0 s : im_S} {n m : Nat} {c : Nat → List Int} {A : Nat → List Int} {ma : Nat} {ao tm : Nat → Nat} {Q : im_S → Prop} (hf : fi s n c) (hd : dsm c n ≤ 80) (h34 : wgf s 34 = 0) (h41 : wgf s 41 = 0) (h52 : wgf s 52 = 0) (h6 : 0 ≤ wgf s 6 ∧ wgf s 6 ≤ 10) (h584 : ∀ i : Nat, (i : Int) < 9 * wgf s 6 → -1000000000 ≤ wga s 584 (i : Int) ∧ wga s 584 (i : Int) ≤ 1000000000) (h10 : wgf s 10 = m) (hm : mok s m) (hfa : fa s0 s) (hV : FV A ma n c ao tm) (h45 : rw45 s n ao tm) (hQ : ∀ (s' : im_S) (n nb : Nat) (b : Nat → List Int) (T : Nat → Nat → Nat) (f : Nat → Int) (F : Nat → List Int) (lo hi : Nat → Rat) (ds : Nat → Rat → Int) (od : Nat → Nat), fa s0 s' → RVl s' A ma n nb b T f F lo hi ds od → Q s') : wloop (fun (K : Int × im_S → Prop) (a : Int × im_S) => W_findAll_53 K a.1 a.2 Q) (0, s) := by
  obtain ⟨g1, g2, g3, g4, g5⟩ := hf
  have n80 : n ≤ 80 := by
    have := dsm_n (c := c) (n := n) (fun k hk => (g5 k hk).2.1.2.2.1)
    omega
  refine ⟨fun a => fa s a.2 ∧ wgf a.2 41 = 0 ∧ wgf a.2 52 = 0 ∧ fx a.2 n c ∧ ∃ l : Nat, a.1 = l ∧ l ≤ n ∧ (0 ≤ wgf a.2 24 ∧ wgf a.2 24 ≤ 40 * n + 72 * (dsm c l : Nat)) ∧ (0 ≤ wgf a.2 28 ∧ wgf a.2 28 ≤ n + 2 * (dsm c l : Nat)) ∧ ∃ (nb : Nat) (b : Nat → List Int), bi a.2 nb b ∧ dsm b nb ≤ dsm c l ∧ rw45 a.2 n ao tm ∧ ∃ X, XI c l nb b X, fun a => (n - a.1).toNat, ⟨fa_rfl, h41, h52, ⟨g1, n80, g5⟩, 0, rfl, by first | omega | (dsimp only; omega), by first | omega | (dsimp only; omega), by first | omega | (dsimp only; omega), 0, fun _ => [], ⟨h34, fun k hk => absurd hk (Nat.not_lt_zero k), fun i j _ hj => absurd hj (Nat.not_lt_zero j)⟩, Nat.le_refl _, h45, fun _ _ => 0, fun k hk => absurd hk (Nat.not_lt_zero k), fun k hk => absurd hk (Nat.not_lt_zero k)⟩, ?_⟩
  rintro ⟨l1, s2⟩ ⟨i1, i2, i3, i4, l, i5, i6, i7, i8, nb, b, i9, i10, i11, X, i12⟩
  dsimp only at i1 i2 i3 i4 i5 i7 i8 i9 i11 ⊢
  subst i5
  have e6 := fa_f i1 6 (by first | decide | omega | (dsimp only; omega) | (dsimp only; decide))
  have e10 := fa_f i1 10 (by first | decide | omega | (dsimp only; omega) | (dsimp only; decide))
  have e36 : wgf s2 36 = n := i4.1
  have dl : dsm c l ≤ 80 := by
    have := dsm_mo (c := c) (n := l) (m := n - l)
    rw [show l + (n - l) = n by first | omega | (dsimp only; omega)] at this
    omega
  unfold W_findAll_53
  rw [e36]
  refine ⟨fun q => ?_, fun q => ⟨by first | omega | (dsimp only; omega), ?_⟩⟩
  · have ln : l = n := by omega
    subst ln
    refine findTimes_okv (n := l) (nb := nb) (by first | omega | (dsimp only; omega)) (by first | omega | (dsimp only; omega)) i4 i9 (by first | omega | (dsimp only; omega)) i12 i11 hV.2.2 (fun s3 a1 a2 a3 a4 a44 => ?_)
    have fa3 : fa s2 s3 := pw_fa a1 (fun f hf => by simp at hf; omega) (fun c hc => by simp at hc; omega)
    have fs3 := fa_tr i1 fa3
    have x6 := fa_f fs3 6 (by first | decide | omega | (dsimp only; omega) | (dsimp only; decide))
    have x10 := fa_f fs3 10 (by first | decide | omega | (dsimp only; omega) | (dsimp only; decide))
    refine all_83c (m := m) (pw_bi a1 (by first | decide | omega | (dsimp only; omega) | (dsimp only; decide)) (fun r hr => by simp at hr; omega) (by first | omega | (dsimp only; omega)) (by first | omega | (dsimp only; omega)) (by first | omega | (dsimp only; omega)) i9) (by first | omega | (dsimp only; omega)) (by first | omega | (dsimp only; omega)) (by first | omega | (dsimp only; omega)) ?_ ?_ (by first | omega | (dsimp only; omega)) a4 (fun i hi => ?_) (by first | omega | (dsimp only; omega)) (mok_co (fun i _ => fa_r fs3 _ _ (by first | decide | omega | (dsimp only; omega) | (dsimp only; decide))) hm) (fa_tr hfa fs3) (FV_SYS hV i12 i9.2.2 (fun e he => ⟨⟨(b e).length - 1, (i9.2.1 e he).2.1.1.2.2.1 _ (by have := (i9.2.1 e he).2.2.2.1; omega)⟩, (i9.2.1 e he).2.2.1⟩) (fun k hk => by have z := (i4.2.2 k hk).2.2.2.1; rw [(i11 k hk).2] at z; omega)) (fun e i he hi => by rw [a44 e i he hi, if_pos he]) (fun s' n' f F lo hi ds od b1 b2 => hQ s' n' nb b _ f F lo hi ds od b1 b2)
    · rw [pw_f a1 (by first | decide | omega | (dsimp only; omega) | (dsimp only; decide))]; exact i2
    · rw [pw_f a1 (by first | decide | omega | (dsimp only; omega) | (dsimp only; decide))]; exact i3
    · rw [x6] at hi
      rw [fa_r fs3 _ _ (by first | decide | omega | (dsimp only; omega) | (dsimp only; decide))]; exact h584 i hi
  · have dl2 : dsm c (l + 1) = dsm c l + ((c l).length - 1) := rfl
    have dl3 : dsm c (l + 1) ≤ 80 := by
      have := dsm_mo (c := c) (n := l + 1) (m := n - (l + 1))
      rw [show l + 1 + (n - (l + 1)) = n by first | omega | (dsimp only; omega)] at this
      omega
    obtain ⟨p1, p2, _⟩ := i4.2.2 l (by first | omega | (dsimp only; omega))
    refine join_okv (nb := nb) (b := b) (by first | omega | (dsimp only; omega)) (by first | omega | (dsimp only; omega)) p1 p2 i9 (by first | omega | (dsimp only; omega)) (fun s3 N b' a1 a2 a3 a4 a5 a6 a7 a8 => ?_)
    have fa3 : fa s2 s3 := pw_fa a1 (fun f hf => by simp at hf; omega) (fun c hc => by simp at hc; omega)
    refine ⟨by unfold iR; first | omega | (dsimp only; omega), ⟨fa_tr i1 fa3, ?_, ?_, pw_fx a1 (by first | decide | omega | (dsimp only; omega) | (dsimp only; decide)) (fun r hr => by simp at hr; omega) (by first | omega | (dsimp only; omega)) (by first | omega | (dsimp only; omega)) (by first | omega | (dsimp only; omega)) i4, l + 1, by first | omega | (dsimp only; omega), by first | omega | (dsimp only; omega), by first | omega | (dsimp only; omega), by first | omega | (dsimp only; omega), N, b', a2, by first | omega | (dsimp only; omega), fun k hk => by rw [pw_r a1 (by decide) (by decide) (by decide) (by decide), pw_r a1 (by decide) (by decide) (by decide) (by decide)]; exact i11 k hk, XI_s i12 a8 a2.2.2⟩, by first | omega | (dsimp only; omega)⟩
    · (try dsimp only); rw [pw_f a1 (by first | decide | omega | (dsimp only; omega) | (dsimp only; decide))]; exact i2
    · (try dsimp only); rw [pw_f a1 (by first | decide | omega | (dsimp only; omega) | (dsimp only; decide))]; exact i3
theorem findAll_okc {s : im_S} {m : Nat} {Q : im_S → Prop} (h6 : 0 ≤ wgf s 6 ∧ wgf s 6 ≤ 10) (h584 : ∀ i : Nat, (i : Int) < 9 * wgf s 6 → -1000000000 ≤ wga s 584 (i : Int) ∧ wga s 584 (i : Int) ≤ 1000000000) (h10 : wgf s 10 = m) (hm : mok s m) {A : Nat → List Int} {ma : Nat} (hma : wgf s 6 = (ma : Int)) (hA : ∀ i : Nat, i < ma → A i = pmk 9 (fun k => wga s 584 (9 * (i : Int) + k))) (hQ : ∀ (s' : im_S) (n nb : Nat) (b : Nat → List Int) (T : Nat → Nat → Nat) (f : Nat → Int) (F : Nat → List Int) (lo hi : Nat → Rat) (ds : Nat → Rat → Int) (od : Nat → Nat), fa s s' → RVl s' A ma n nb b T f F lo hi ds od → Q s') : W_findAll s Q := by
  unfold W_findAll
  intro s1 e1 s2 e2 s3 e3 s4 e4 s5 e5 s6 e6
  have f6 : fa s s6 := by
    rw [e6, e5, e4, e3, e2, e1]
    exact wpf_fa (wpf_fa (wpf_fa (wpf_fa (wpf_fa (wpf_fa fa_rfl (by first | decide | omega | (dsimp only; omega) | (dsimp only; decide))) (by first | decide | omega | (dsimp only; omega) | (dsimp only; decide))) (by first | decide | omega | (dsimp only; omega) | (dsimp only; decide))) (by first | decide | omega | (dsimp only; omega) | (dsimp only; decide))) (by first | decide | omega | (dsimp only; omega) | (dsimp only; decide))) (by first | decide | omega | (dsimp only; omega) | (dsimp only; decide))
  have v28 : wgf s6 28 = 0 := by rw [e6, e5, e4, e3, e2, e1]; rfl
  have v24 : wgf s6 24 = 0 := by rw [e6, e5, e4, e3, e2, e1]; rfl
  have v34 : wgf s6 34 = 0 := by rw [e6, e5, e4, e3, e2, e1]; rfl
  have v36 : wgf s6 36 = 0 := by rw [e6, e5, e4, e3, e2, e1]; rfl
  have v41 : wgf s6 41 = 0 := by rw [e6, e5, e4, e3, e2, e1]; rfl
  have v52 : wgf s6 52 = 0 := by rw [e6, e5, e4, e3, e2, e1]; rfl
  refine ⟨fun a => fa s a.2 ∧ wgf a.2 34 = 0 ∧ wgf a.2 41 = 0 ∧ wgf a.2 52 = 0 ∧ ∃ l : Nat, a.1 = l ∧ (l : Int) ≤ wgf s 6 ∧ ∃ (n : Nat) (c : Nat → List Int), fi a.2 n c ∧ dsm c n ≤ 8 * l ∧ ∃ ao tm, FV A l n c ao tm ∧ rw45 a.2 n ao tm, fun a => (wgf s 6 - a.1).toNat, ⟨f6, v34, v41, v52, 0, rfl, h6.1, 0, fun _ => [], ⟨v36, v28, by rw [v24]; decide, by rw [v24]; decide, fun k hk => absurd hk (Nat.not_lt_zero k)⟩, Nat.le_refl _, fun _ => 0, fun _ => 0, ⟨fun k hk => absurd hk (Nat.not_lt_zero k), fun k hk => absurd hk (Nat.not_lt_zero k), fun k k' _ hk => absurd hk (Nat.not_lt_zero k')⟩, fun k hk => absurd hk (Nat.not_lt_zero k)⟩, ?_⟩
  rintro ⟨l1, s7⟩ ⟨i1, i2, i3, i4, l, i5, i6, n, c, i7, i8, ao, tm, i9, i10⟩
  dsimp only at i1 i2 i3 i4 i5 i7 i10 ⊢
  subst i5
  have x6 := fa_f i1 6 (by first | decide | omega | (dsimp only; omega) | (dsimp only; decide))
  have x10 := fa_f i1 10 (by first | decide | omega | (dsimp only; omega) | (dsimp only; decide))
  unfold W_findAll_32
  rw [x6]
  refine ⟨fun q => ?_, fun q => ?_⟩
  · exact all_53c (m := m) i7 (by first | omega | (dsimp only; omega)) i2 i3 i4 (by first | omega | (dsimp only; omega)) (fun i hi => by rw [x6] at hi; rw [fa_r i1 _ _ (by first | decide | omega | (dsimp only; omega) | (dsimp only; decide))]; exact h584 i hi) (by first | omega | (dsimp only; omega)) (mok_co (fun i _ => fa_r i1 _ _ (by first | decide | omega | (dsimp only; omega) | (dsimp only; decide))) hm) i1 (by rw [show ma = l by omega]; exact i9) i10 hQ
  · refine part1_okv (v := fun k => wga s7 584 (9 * (l : Int) + k)) (by first | omega | (dsimp only; omega)) (fun k hk => rfl) (fun k hk => ?_) i7 (by first | omega | (dsimp only; omega)) (fun s8 n' c' a1 a2 a3 a4 a5 => ?_)
    · skip
      rw [fa_r i1 _ _ (by first | decide | omega | (dsimp only; omega) | (dsimp only; decide))]
      have := h584 (9 * l + k) (by first | omega | (dsimp only; omega))
      rw [show ((9 * l + k : Nat) : Int) = 9 * (l : Int) + k by first | omega | (dsimp only; omega)] at this
      exact this
    · have fa3 : fa s7 s8 := pw_fa a1 (fun f hf => by simp at hf; omega) (fun c hc => by simp at hc; omega)
      refine ⟨by unfold iR; first | omega | (dsimp only; omega), ⟨fa_tr i1 fa3, ?_, ?_, ?_, l + 1, by first | omega | (dsimp only; omega), by first | omega | (dsimp only; omega), n', c', a2, by first | omega | (dsimp only; omega), FV_s i9 i10 a5 (by rw [hA l (by omega)]; congr 1; funext k; exact (fa_r i1 _ _ (by omega)).symm)⟩, by first | omega | (dsimp only; omega)⟩
      · (try dsimp only); rw [pw_f a1 (by first | decide | omega | (dsimp only; omega) | (dsimp only; decide))]; exact i2
      · (try dsimp only); rw [pw_f a1 (by first | decide | omega | (dsimp only; omega) | (dsimp only; decide))]; exact i3
      · (try dsimp only); rw [pw_f a1 (by first | decide | omega | (dsimp only; omega) | (dsimp only; decide))]; exact i4
