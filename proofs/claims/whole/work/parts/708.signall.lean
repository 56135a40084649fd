/-! isSo and signAll -/
def rwr (rs : List Nat) (s s' : im_S) : Prop := s'.1 = s.1 ∧ ∀ c i : Nat, c ∉ rs → s'.2 c i = s.2 c i
theorem rwr_rfl {rs : List Nat} {s : im_S} : rwr rs s s := ⟨rfl, fun _ _ _ => rfl⟩
theorem rwr_tr {rs : List Nat} {s s1 s2 : im_S} (h1 : rwr rs s s1) (h2 : rwr rs s1 s2) : rwr rs s s2 := ⟨h2.1.trans h1.1, fun c i h => (h2.2 c i h).trans (h1.2 c i h)⟩
theorem rwr_mono {rs rs' : List Nat} {s s' : im_S} (h : rwr rs s s') (hs : ∀ c, c ∈ rs → c ∈ rs') : rwr rs' s s' := ⟨h.1, fun c i q => h.2 c i (fun z => q (hs c z))⟩
theorem rwr_pa {rs : List Nat} {s s' : im_S} {c : Nat} {i x : Int} (h : rwr rs s s') (hc : c ∈ rs) : rwr rs s (wpa s' c i x) := ⟨h.1, fun d j q => (show im_up s'.2 c i.toNat x d j = s.2 d j from (im_up_ne (fun z => q (by rw [z.1]; exact hc))).trans (h.2 d j q))⟩
theorem rwr_f {rs : List Nat} {s s' : im_S} (h : rwr rs s s') (f : Nat) : wgf s' f = wgf s f := by
  unfold wgf
  rw [h.1]
theorem rwr_r {rs : List Nat} {s s' : im_S} (h : rwr rs s s') (c : Nat) (i : Int) (hc : c ∉ rs) : wga s' c i = wga s c i := h.2 c i.toNat hc
theorem rwr_pol {rs : List Nat} {s s' : im_S} {f : Int} {P : List Int} (h : rwr rs s s') (h1 : 597 ∉ rs) (h2 : 598 ∉ rs) (h3 : 599 ∉ rs) (hp : pol s f P) : pol s' f P := by
  obtain ⟨f1, f2, f3, f4, f5, f6⟩ := hp
  refine ⟨f1, by rw [rwr_f h]; exact f2, by rw [rwr_f h]; exact f3, f4, by rw [rwr_r h _ _ h2]; exact f5, fun i hi => ?_⟩
  rw [rwr_r h _ _ h3]
  obtain ⟨n1, n2⟩ := f6 i hi
  exact ⟨num_co n1 n1.1 n1.2.1 (fun t _ _ => rwr_r h _ _ h1), by rw [rwr_f h]; exact n2⟩
theorem rwr_rk {rs : List Nat} {s s' : im_S} {R : Nat} {f : Int} {F : List Int} {lo hi : Rat} (h : rwr rs s s') (hs : ∀ c, c ∈ rs → c = 588 ∨ c = 614 ∨ c = 617 ∨ c = 618) (hk : rk s R f F lo hi) : rk s' R f F lo hi := by
  have r9 : ∀ (c : Nat) (i : Int), ¬ (c = 588 ∨ c = 614 ∨ c = 617 ∨ c = 618) → wga s' c i = wga s c i := fun c i h1 => rwr_r h c i (fun z => h1 (hs c z))
  have nn : ∀ c, ¬ (c = 588 ∨ c = 614 ∨ c = 617 ∨ c = 618) → c ∉ rs := fun c q z => q (hs c z)
  rcases hk with k | ⟨k1, k2, k3, hh, E, k4, ⟨i1, i2, i3, i4, i5, i6, i7, i8⟩, k6, k7⟩
  · exact Or.inl (by rw [r9 609 _ (by first | decide | omega | (dsimp only; omega) | (dsimp only; decide)), r9 608 _ (by first | decide | omega | (dsimp only; omega) | (dsimp only; decide))]; exact k)
  · exact Or.inr ⟨by rw [r9 609 _ (by first | decide | omega | (dsimp only; omega) | (dsimp only; decide))]; exact k1, k2, rwr_pol h (nn _ (by first | decide | omega | (dsimp only; omega) | (dsimp only; decide))) (nn _ (by first | decide | omega | (dsimp only; omega) | (dsimp only; decide))) (nn _ (by first | decide | omega | (dsimp only; omega) | (dsimp only; decide))) k3, hh, E, k4, ⟨by rw [r9 610 _ (by first | decide | omega | (dsimp only; omega) | (dsimp only; decide))]; exact i1, by rw [r9 611 _ (by first | decide | omega | (dsimp only; omega) | (dsimp only; decide))]; exact i2, by rw [r9 612 _ (by first | decide | omega | (dsimp only; omega) | (dsimp only; decide))]; exact i3, num_co i4 i4.1 i4.2.1 (fun t _ _ => r9 597 _ (by first | decide | omega | (dsimp only; omega) | (dsimp only; decide))), i5, i6, i7, by rw [r9 613 _ (by first | decide | omega | (dsimp only; omega) | (dsimp only; decide))]; exact i8⟩, k6, k7⟩
theorem rwr_rdy {rs : List Nat} {s s' : im_S} {n nb : Nat} {f : Nat → Int} {F : Nat → List Int} {lo hi : Nat → Rat} (h : rwr rs s s') (hs : ∀ c, c ∈ rs → c = 588 ∨ c = 617 ∨ c = 618) (hr : rdy s n nb f F lo hi) : rdy s' n nb f F lo hi := by
  obtain ⟨r0, r1, r2, r3, r4, r5, r6, r7, r8, r9, r10⟩ := hr
  have rr : ∀ (c : Nat) (i : Int), ¬ (c = 588 ∨ c = 617 ∨ c = 618) → wga s' c i = wga s c i := fun c i h1 => rwr_r h c i (fun z => h1 (hs c z))
  have rf := fun f => rwr_f h f
  refine ⟨⟨r0.1, fun R hR => rwr_rk h (fun c hc => by have := hs c hc; omega) (r0.2 R hR)⟩, by rw [rf 41]; exact r1, by rw [rf 34]; exact r2, r3, by rw [rf 24]; exact r4, by rw [rf 6]; exact r5, fun k hk => ?_, fun R hR => ?_, fun i hi => ?_, fun b hb => ?_, fun i hi => ?_⟩
  · rw [rr 614 _ (by first | decide | omega | (dsimp only; omega) | (dsimp only; decide))]; exact r6 k hk
  · rw [rr 607 _ (by first | decide | omega | (dsimp only; omega) | (dsimp only; decide))]; exact r7 R hR
  · rw [rr 606 _ (by first | decide | omega | (dsimp only; omega) | (dsimp only; decide))]; exact r8 i hi
  · rw [rr 602 _ (by first | decide | omega | (dsimp only; omega) | (dsimp only; decide)), rr 598 _ (by first | decide | omega | (dsimp only; omega) | (dsimp only; decide))]; exact r9 b hb
  · rw [rf 6] at hi
    rw [rr 584 _ (by first | decide | omega | (dsimp only; omega) | (dsimp only; decide))]; exact r10 i hi
/-- how many truths lie behind k steps of what was made -/
def mdp (s : im_S) : Nat → Int
  | 0 => 0
  | k + 1 => mdp s k + (if 0 ≤ wga s 586 (k : Int) then 1 else if wga s 586 (k : Int) = -1 then 0 else -1)
def mok (s : im_S) (n : Nat) : Prop := n ≤ 500 ∧ ∀ k : Nat, k < n → wga s 586 (k : Int) < 10 ∧ mdp s k ≤ 300 ∧ (wga s 586 (k : Int) = -1 → 1 ≤ mdp s k) ∧ (wga s 586 (k : Int) < -1 → 2 ≤ mdp s k) ∧ 0 ≤ mdp s k
theorem mdp_co {s s' : im_S} : ∀ {k : Nat}, (∀ i : Nat, i < k → wga s' 586 (i : Int) = wga s 586 (i : Int)) → mdp s' k = mdp s k
  | 0, _ => rfl
  | k + 1, h => by
    show mdp s' k + _ = mdp s k + _
    rw [mdp_co (k := k) (fun i hi => h i (by first | omega | (dsimp only; omega))), h k (by first | omega | (dsimp only; omega))]
theorem mok_co {s s' : im_S} {n : Nat} (h : ∀ i : Nat, i < n → wga s' 586 (i : Int) = wga s 586 (i : Int)) (hm : mok s n) : mok s' n := ⟨hm.1, fun k hk => by
  rw [h k hk, mdp_co (fun i hi => h i (by first | omega | (dsimp only; omega)))]
  exact hm.2 k hk⟩
theorem isSo_ok {s : im_S} {c : Int} {n : Nat} {Q : Int → im_S → Prop} (hc : 0 ≤ c ∧ c ≤ 170) (hn : wgf s 10 = n) (hm : mok s n) (hQ : ∀ (v : Int) (s' : im_S), rwr [588] s s' → Q v s') : W_isSo c s Q := by
  unfold W_isSo
  have n5 := hm.1
  refine ⟨fun a => rwr [588] s a.2.2 ∧ ∃ k : Nat, k ≤ n ∧ a.2.1 = k ∧ a.1 = mdp s k, fun a => (n - a.2.1).toNat, ⟨rwr_rfl, 0, by first | omega | (dsimp only; omega), rfl, rfl⟩, ?_⟩
  rintro ⟨l2, l3, s2⟩ ⟨i1, k, i2, i3, i4⟩
  dsimp only at i1 i3 i4 ⊢
  subst i3
  have e10 : wgf s2 10 = n := by rw [rwr_f i1]; exact hn
  have e6 : wga s2 586 (k : Int) = wga s 586 (k : Int) := rwr_r i1 _ _ (by first | decide | omega | (dsimp only; omega) | (dsimp only; decide))
  unfold W_isSo_4 W_isSo_212
  rw [e10, e6]
  refine ⟨fun _ => ⟨by first | decide | omega | (dsimp only; omega) | (dsimp only; decide), hQ _ s2 i1⟩, fun q => ?_⟩
  obtain ⟨m1, m2, m3, m4, m5⟩ := hm.2 k (by first | omega | (dsimp only; omega))
  have step : mdp s (k + 1) = mdp s k + (if 0 ≤ wga s 586 (k : Int) then 1 else if wga s 586 (k : Int) = -1 then 0 else -1) := rfl
  have nxt : ((k : Int) + 1) = ((k + 1 : Nat) : Int) := by first | omega | (dsimp only; omega)
  refine ⟨by first | omega | (dsimp only; omega), fun neg => ⟨fun q1 => ?_, fun q1 => ?_⟩, fun pos => ?_⟩
  · rw [if_neg (by first | omega | (dsimp only; omega)), if_neg q1] at step
    have m4' := m4 (by first | omega | (dsimp only; omega))
    refine ⟨by unfold iR; first | omega | (dsimp only; omega), by unfold iR; first | omega | (dsimp only; omega), fun _ => by first | omega | (dsimp only; omega), fun _ _ => by first | omega | (dsimp only; omega), fun _ => by first | omega | (dsimp only; omega), fun _ _ => by first | omega | (dsimp only; omega), fun w _ => ⟨by first | omega | (dsimp only; omega), fun s3 e3 => ⟨by unfold iR; first | omega | (dsimp only; omega), ⟨by rw [e3]; exact rwr_pa i1 (by first | decide | omega | (dsimp only; omega) | (dsimp only; decide)), k + 1, by first | omega | (dsimp only; omega), nxt, by first | omega | (dsimp only; omega)⟩, by first | omega | (dsimp only; omega)⟩⟩⟩
  · rw [if_neg (by first | omega | (dsimp only; omega)), if_pos q1] at step
    have m3' := m3 q1
    refine ⟨by first | omega | (dsimp only; omega), fun w _ => ⟨by first | omega | (dsimp only; omega), fun s3 e3 => ⟨by unfold iR; first | omega | (dsimp only; omega), ⟨by rw [e3]; exact rwr_pa i1 (by first | decide | omega | (dsimp only; omega) | (dsimp only; decide)), k + 1, by first | omega | (dsimp only; omega), nxt, by first | omega | (dsimp only; omega)⟩, by first | omega | (dsimp only; omega)⟩⟩⟩
  · rw [if_pos (by first | omega | (dsimp only; omega))] at step
    refine ⟨by unfold iR; first | omega | (dsimp only; omega), by first | omega | (dsimp only; omega), by first | omega | (dsimp only; omega), fun w _ => ⟨by first | omega | (dsimp only; omega), fun s3 e3 => ⟨by unfold iR; first | omega | (dsimp only; omega), by unfold iR; first | omega | (dsimp only; omega), ⟨by rw [e3]; exact rwr_pa i1 (by first | decide | omega | (dsimp only; omega) | (dsimp only; decide)), k + 1, by first | omega | (dsimp only; omega), nxt, by first | omega | (dsimp only; omega)⟩, by first | omega | (dsimp only; omega)⟩⟩⟩
theorem signAll_ok {s : im_S} {n nb m : Nat} {f : Nat → Int} {F : Nat → List Int} {lo hi : Nat → Rat} {Q : im_S → Prop} (hr : rdy s n nb f F lo hi) (hn : wgf s 10 = m) (hm : mok s m) (hQ : ∀ s' : im_S, rwr [588, 617, 618] s s' → rdy s' n nb f F lo hi → Q s') : W_signAll s Q := by
  have n80 := hr.1.1
  have e41 := hr.2.1
  have e6 := hr.2.2.2.2.2.1
  have sub : ∀ c, c ∈ [588, 617, 618] → c = 588 ∨ c = 617 ∨ c = 618 := fun c hc => by simpa using hc
  unfold W_signAll
  refine ⟨fun a => rwr [588, 617, 618] s a.2 ∧ (0 ≤ a.1 ∧ a.1 ≤ wgf s 6), fun a => (wgf s 6 - a.1).toNat, ⟨rwr_rfl, by first | decide | omega | (dsimp only; omega) | (dsimp only; decide), e6.1⟩, ?_⟩
  rintro ⟨l1, s2⟩ ⟨i1, i2⟩
  dsimp only at i1 i2 ⊢
  have q6 := rwr_f i1 6
  have q41 := rwr_f i1 41
  have r2 := rwr_rdy i1 sub hr
  unfold W_signAll_2
  rw [q6]
  refine ⟨fun c => ?_, fun c => degreeOf_ok (by first | omega | (dsimp only; omega)) (fun d hd => ⟨fun _ => by unfold iR; first | omega | (dsimp only; omega), fun _ => by first | omega | (dsimp only; omega), fun v hv => ⟨by unfold iR; first | omega | (dsimp only; omega), by first | omega | (dsimp only; omega), fun s3 e3 => ?_⟩⟩)⟩
  · refine ⟨fun a => rwr [588, 617, 618] s a.2 ∧ (0 ≤ a.1 ∧ a.1 ≤ 2 * wgf s 41 + 1), fun a => (2 * wgf s 41 + 1 - a.1).toNat, ⟨i1, by first | decide | omega | (dsimp only; omega) | (dsimp only; decide), by show (0 : Int) ≤ _; omega⟩, ?_⟩
    rintro ⟨k, s3⟩ ⟨j1, j2⟩
    dsimp only at j1 j2 ⊢
    have p41 := rwr_f j1 41
    have p10 := rwr_f j1 10
    unfold W_signAll_151
    refine cells_ok (by first | omega | (dsimp only; omega)) ⟨fun _ => hQ s3 j1 (rwr_rdy j1 sub hr), fun c' => isSo_ok (n := m) (by first | omega | (dsimp only; omega)) (by first | omega | (dsimp only; omega)) (mok_co (fun i _ => rwr_r j1 _ _ (by first | decide | omega | (dsimp only; omega) | (dsimp only; decide))) hm) (fun v s4 b1 => ⟨by first | omega | (dsimp only; omega), fun s5 e5 => ⟨by unfold iR; first | omega | (dsimp only; omega), ⟨?_, by first | omega | (dsimp only; omega)⟩, by first | omega | (dsimp only; omega)⟩⟩)⟩
    rw [e5]
    exact rwr_pa (rwr_tr j1 (rwr_mono b1 (by simp))) (by first | decide | omega | (dsimp only; omega) | (dsimp only; decide))
  · have i3 : rwr [588, 617, 618] s s3 := by rw [e3]; exact rwr_pa i1 (by first | decide | omega | (dsimp only; omega) | (dsimp only; decide))
    have q3 := rwr_f i3 41
    refine ⟨by unfold iR; first | omega | (dsimp only; omega), ?_⟩
    have v1 : -1 ≤ v ∧ v ≤ 1 := by
      rw [hv]
      split
      · split <;> omega
      · omega
    refine ⟨fun a => rwr [588, 617, 618] s a.2.2 ∧ (-1 ≤ a.2.1 ∧ a.2.1 < n) ∧ (-1 ≤ a.1 ∧ a.1 ≤ 1), fun a => (a.2.1 + 1).toNat, ⟨i3, by first | omega | (dsimp only; omega), v1⟩, ?_⟩
    rintro ⟨l3, l4, s4⟩ ⟨j1, j2, j3⟩
    dsimp only at j1 j2 j3 ⊢
    unfold W_signAll_69
    refine ⟨fun _ => ⟨by unfold iR; first | omega | (dsimp only; omega), ⟨j1, by first | omega | (dsimp only; omega)⟩, by first | omega | (dsimp only; omega)⟩, fun c' => timesAt_ok (rwr_rdy j1 sub hr) (by first | omega | (dsimp only; omega)) (by first | omega | (dsimp only; omega)) (fun t ht => ⟨fun _ => by unfold iR; first | omega | (dsimp only; omega), fun w hw => ⟨by unfold iR; first | omega | (dsimp only; omega), by unfold iR; first | omega | (dsimp only; omega), by unfold iR; first | omega | (dsimp only; omega), by unfold iR; first | omega | (dsimp only; omega), fun u hu => ⟨by first | omega | (dsimp only; omega), fun s5 e5 => ⟨by unfold iR; first | omega | (dsimp only; omega), by first | omega | (dsimp only; omega), fun s6 e6 => ⟨by unfold iR; first | omega | (dsimp only; omega), ⟨?_, by first | omega | (dsimp only; omega), ?_⟩, by first | omega | (dsimp only; omega)⟩⟩⟩⟩⟩)⟩
    · rw [e6, e5]; exact rwr_pa (rwr_pa j1 (by first | decide | omega | (dsimp only; omega) | (dsimp only; decide))) (by first | decide | omega | (dsimp only; omega) | (dsimp only; decide))
    · rw [hw]; split <;> omega
