/-! findAll OF THE REFERENCE: all that is held behind it -/
def XPR (s : im_S) (A : Nat → List Int) (ma m : Nat) (w : Nat → Int) : Prop := wgf s 6 = (ma : Int) ∧ ma ≤ 10 ∧ (∀ i, i < ma → pdb (A i) 9 ∧ ∀ k : Nat, k < 9 → wga s 584 (9 * (i : Int) + k) = pgt (A i) k) ∧ (∀ i : Nat, i < ma → wga s 585 (i : Int) = w i) ∧ (∀ k : Nat, k < m → wga s 586 (k : Int) < (ma : Int)) ∧ 1 ≤ m ∧ mdp s m = 1
theorem XPR_co {s s' : im_S} {A : Nat → List Int} {ma m : Nat} {w : Nat → Int} (h : XPR s A ma m w) (h6 : wgf s' 6 = wgf s 6) (hr : ∀ c : Nat, (c = 584 ∨ c = 585 ∨ c = 586) → ∀ x : Int, wga s' c x = wga s c x) : XPR s' A ma m w := by
  obtain ⟨x1, x2, x3, x4, x5, x6, x7⟩ := h
  refine ⟨h6.trans x1, x2, fun i hi => ⟨(x3 i hi).1, fun k hk => by rw [hr 584 (by omega)]; exact (x3 i hi).2 k hk⟩, fun i hi => by rw [hr 585 (by omega)]; exact x4 i hi, fun k hk => by rw [hr 586 (by omega)]; exact x5 k hk, x6, ?_⟩
  rw [mdp_co (s := s) (fun i _ => hr 586 (by omega) _)]; exact x7
def SGR (s : im_S) (ma n : Nat) (T : Nat → Nat → Nat) (od : Nat → Nat) (w L : Nat → Int) (m : Nat) : Prop := (∀ c a : Nat, c ≤ 2 * n → a < ma → wga s 617 ((10 * c + a : Nat) : Int) = sgc (L a) (fun k => T (owR s od k) a) n c) ∧ ∀ c : Nat, c ≤ 2 * n → wga s 618 (c : Int) = b2i (stZ9 (fun a => decide (sgc (L a) (fun k => T (owR s od k) a) n c = due (w a))) s m 0)
theorem ord_104z {s0 s : im_S} {n nb m : Nat} {b : Nat → List Int} {f : Nat → Int} {F : Nat → List Int} {lo hi : Nat → Rat} {A : Nat → List Int} {ma : Nat} {T : Nat → Nat → Nat} {ds : Nat → Rat → Int} {Q : im_S → Prop} (hq : rq s nb b n f F lo hi) (hb : bi s nb b) (h24 : 0 ≤ wgf s 24 ∧ wgf s 24 ≤ 100000) (hnb : nb ≤ 80) (h6 : 0 ≤ wgf s 6 ∧ wgf s 6 ≤ 10) (h606 : ∀ i : Nat, i < 2000 → 0 ≤ wga s 606 (i : Int) ∧ wga s 606 (i : Int) ≤ 8) (h584 : ∀ i : Nat, (i : Int) < 9 * wgf s 6 → -1000000000 ≤ wga s 584 (i : Int) ∧ wga s 584 (i : Int) ≤ 1000000000) (h10 : wgf s 10 = m) (hm : mok s m) (hfa : fa s0 s) {w L : Nat → Int} (hX : XPR s0 A ma m w) (hL : LSG A L ∧ ∀ a, L a = -1 ∨ L a = 0 ∨ L a = 1) (hS : SYS A ma nb b T) (hT : ∀ e i : Nat, e < nb → i < 10 → wga s 606 ((10 * e + i : Nat) : Int) = (T e i : Int)) (hds : rqc s nb b n F lo hi ds) (hQ : ∀ (s' : im_S) (od : Nat → Nat), fa s0 s' → RVl s' A ma n nb b T f F lo hi ds od → SGR s' ma n T od w L m → Q s') : wloop (fun (K : Int × im_S → Prop) (a : Int × im_S) => W_findAll_104 K a.1 a.2 Q) (0, s) := by
  have n80 := hq.1.1
  have e41 := hq.2.1
  have hp : ∀ R1 R2 : Nat, R1 < n → R2 < n → R1 ≠ R2 → wga s 609 (R1 : Int) = 0 → wga s 609 (R2 : Int) = 0 → hi R1 ≤ lo R2 ∨ hi R2 ≤ lo R1 ∨ cop (F R1) (F R2) := fun R1 R2 a1 a2 a3 a4 a5 => rq_pair hq hb.2.2 (Nat.le_refl _) a1 a2 a3 a4 a5
  refine ⟨fun a => rfo s a.2 ∧ rkl a.2 n f F lo hi ∧ ∃ (r : Nat) (od : Nat → Nat), a.1 = r ∧ r ≤ n ∧ ORD a.2 r ds od, fun a => (n - a.1).toNat, ⟨rfo_rfl, hq.1, 0, fun _ => 0, rfl, by first | omega | (dsimp only; omega), fun k hk => absurd hk (Nat.not_lt_zero k), fun k k' _ hk => absurd hk (Nat.not_lt_zero k'), fun k hk => absurd hk (Nat.not_lt_zero k)⟩, ?_⟩
  rintro ⟨l1, s2⟩ ⟨i1, i2, r, od, i3, i4, i5⟩
  dsimp only at i1 i2 i3 i5 ⊢
  subst i3
  have q41 := rfo_f i1 41 (by first | decide | omega | (dsimp only; omega) | (dsimp only; decide))
  unfold W_findAll_104
  rw [q41, e41]
  refine ⟨fun c => ?_, fun c => ord_114c h24 hp (fun R hR => (hds.1 R hR).1) hds.2.2 (fun R hR => (hds.1 R hR).2.1) i1 i2 (by first | omega | (dsimp only; omega)) i5 (fun s' od' a1 a2 a3 => ⟨⟨a1, a2, r + 1, od', rfl, by first | omega | (dsimp only; omega), a3⟩, by first | omega | (dsimp only; omega)⟩)⟩
  have er : r = n := by first | omega | (dsimp only; omega)
  rw [er] at i5
  have rr := fun c i h1 h2 h3 => rfo_r i1 c i h1 h2 h3
  have rf := fun f hf => rfo_f i1 f hf
  have rd2 : rdy s2 n nb f F lo hi := by
    refine ⟨i2, by rw [q41]; exact e41, by rw [rf 34 (by first | decide | omega | (dsimp only; omega) | (dsimp only; decide))]; exact hb.1, hnb, by rw [rf 24 (by first | decide | omega | (dsimp only; omega) | (dsimp only; decide))]; exact h24, by rw [rf 6 (by first | decide | omega | (dsimp only; omega) | (dsimp only; decide))]; exact h6, fun k hk => ⟨od k, i5.1 k hk⟩, fun R hR => ?_, fun i hi => ?_, fun j hj => ?_, fun i hi => ?_⟩
    · rw [rr 607 _ (by first | decide | omega | (dsimp only; omega) | (dsimp only; decide)) (by first | decide | omega | (dsimp only; omega) | (dsimp only; decide)) (by first | decide | omega | (dsimp only; omega) | (dsimp only; decide))]
      obtain ⟨j, j1, j2, _⟩ := hq.2.2.2.2.1 R hR
      omega
    · rw [rr 606 _ (by first | decide | omega | (dsimp only; omega) | (dsimp only; decide)) (by first | decide | omega | (dsimp only; omega) | (dsimp only; decide)) (by first | decide | omega | (dsimp only; omega) | (dsimp only; decide))]; exact h606 i hi
    · rw [rr 602 _ (by first | decide | omega | (dsimp only; omega) | (dsimp only; decide)) (by first | decide | omega | (dsimp only; omega) | (dsimp only; decide)) (by first | decide | omega | (dsimp only; omega) | (dsimp only; decide)), rr 598 _ (by first | decide | omega | (dsimp only; omega) | (dsimp only; decide)) (by first | decide | omega | (dsimp only; omega) | (dsimp only; decide)) (by first | decide | omega | (dsimp only; omega) | (dsimp only; decide))]
      obtain ⟨⟨p1, p2, p3, p4, p5, _⟩, _, _, p6, _⟩ := hb.2.1 j hj
      exact ⟨by first | omega | (dsimp only; omega), by first | omega | (dsimp only; omega), by first | omega | (dsimp only; omega)⟩
    · rw [rf 6 (by first | decide | omega | (dsimp only; omega) | (dsimp only; decide))] at hi
      rw [rr 584 _ (by first | decide | omega | (dsimp only; omega) | (dsimp only; decide)) (by first | decide | omega | (dsimp only; omega) | (dsimp only; decide)) (by first | decide | omega | (dsimp only; omega) | (dsimp only; decide))]; exact h584 i hi
  have V2 : RVl s2 A ma n nb b T f F lo hi ds od := ⟨rd2, fun e he => by
    rw [rr 602 _ (by decide) (by decide) (by decide), rr 598 _ (by decide) (by decide) (by decide)]
    obtain ⟨⟨p1, p2, p3, p4, p5, _⟩, p6⟩ := hb.2.1 e he
    exact ⟨p5, p6.1.1⟩, hS, fun e i he hi => by
    rw [rr 606 _ (by decide) (by decide) (by decide)]
    exact hT e i he hi, rqc_co hds (fun c R _ hc => rr c _ (by omega) (by omega) (by omega)), i5⟩
  have X2 : XPR s2 A ma m w := XPR_co hX (by rw [rf 6 (by decide), fa_f hfa 6 (by decide)]) (fun c hc x => by rw [rr c _ (by omega) (by omega) (by omega), fa_r hfa _ _ (by omega)])
  obtain ⟨x1, x2, x3, x4, x5, x6, x7⟩ := X2
  refine signAll_z V2 ⟨x1, x2, x3⟩ hL (by rw [rf 10 (by decide)]; exact h10) (mok_co (fun i _ => rr 586 _ (by decide) (by decide) (by decide)) hm) x4 x5 x6 x7 (fun s3 b1 b2 g1 g2 => ?_)
  have ow : ∀ k, owR s3 od k = owR s2 od k := fun k => by unfold owR; rw [rwr_r b1 607 _ (by decide)]
  have eS : ∀ t, stZ9 t s3 m = stZ9 t s2 m := fun t => stZ9_co (fun x => rwr_r b1 586 x (by decide)) m
  refine hQ s3 od (fa_tr hfa (fa_tr (rfo_fa i1) ⟨fun c f _ => by rw [b1.1], fun c i q => b1.2 c i (fun z => q ?_)⟩)) (RVl_co V2 b2 (fun c i hc => rwr_r b1 c i (fun z => by simp at z; omega))) ⟨fun c a hc ha => ?_, fun c hc => ?_⟩
  · simp at z
    omega
  · simp only [ow]
    exact g1 c a hc ha
  · simp only [ow, eS]
    exact g2 c hc
theorem all_83z {s0 s : im_S} {nb m : Nat} {b : Nat → List Int} {A : Nat → List Int} {ma : Nat} {T : Nat → Nat → Nat} {Q : im_S → Prop} (hb : bi s nb b) (hd : dsm b nb ≤ 80) (h24 : 0 ≤ wgf s 24 ∧ wgf s 24 ≤ 9000) (h28 : 0 ≤ wgf s 28 ∧ wgf s 28 ≤ 240) (h41 : wgf s 41 = 0) (h52 : wgf s 52 = 0) (h6 : 0 ≤ wgf s 6 ∧ wgf s 6 ≤ 10) (h606 : ∀ i : Nat, i < 2000 → 0 ≤ wga s 606 (i : Int) ∧ wga s 606 (i : Int) ≤ 8) (h584 : ∀ i : Nat, (i : Int) < 9 * wgf s 6 → -1000000000 ≤ wga s 584 (i : Int) ∧ wga s 584 (i : Int) ≤ 1000000000) (h10 : wgf s 10 = m) (hm : mok s m) (hfa : fa s0 s) {w L : Nat → Int} (hX : XPR s0 A ma m w) (hL : LSG A L ∧ ∀ a, L a = -1 ∨ L a = 0 ∨ L a = 1) (hS : SYS A ma nb b T) (hT : ∀ e i : Nat, e < nb → i < 10 → wga s 606 ((10 * e + i : Nat) : Int) = (T e i : Int)) (hQ : ∀ (s' : im_S) (n : Nat) (f : Nat → Int) (F : Nat → List Int) (lo hi : Nat → Rat) (ds : Nat → Rat → Int) (od : Nat → Nat), fa s0 s' → RVl s' A ma n nb b T f F lo hi ds od → SGR s' ma n T od w L m → Q s') : wloop (fun (K : Int × im_S → Prop) (a : Int × im_S) => W_findAll_83 K a.1 a.2 Q) (0, s) := by
  have nb80 : nb ≤ 80 := by
    have := dsm_n (c := b) (n := nb) (fun k hk => (hb.2.1 k hk).2.2.2.1)
    omega
  refine ⟨fun a => fa s0 a.2 ∧ fa s a.2 ∧ (∀ i : Nat, wga a.2 606 (i : Int) = wga s 606 (i : Int)) ∧ ∃ l : Nat, a.1 = l ∧ l ≤ nb ∧ bi a.2 nb b ∧ (0 ≤ wgf a.2 24 ∧ wgf a.2 24 ≤ 9000 + 40 * l) ∧ (0 ≤ wgf a.2 28 ∧ wgf a.2 28 ≤ 240 + l) ∧ ∃ (n : Nat) (f : Nat → Int) (F : Nat → List Int) (lo hi : Nat → Rat) (ds : Nat → Rat → Int), rq a.2 l b n f F lo hi ∧ rqc a.2 l b n F lo hi ds, fun a => (nb - a.1).toNat, ⟨hfa, fa_rfl, fun _ => rfl, 0, rfl, by first | omega | (dsimp only; omega), hb, by first | omega | (dsimp only; omega), by first | omega | (dsimp only; omega), 0, fun _ => 0, fun _ => [], fun _ => 0, fun _ => 0, fun _ _ => 0, ⟨⟨by first | omega | (dsimp only; omega), fun R hR => absurd hR (Nat.not_lt_zero R)⟩, h41, h52, by first | omega | (dsimp only; omega), fun R hR => absurd hR (Nat.not_lt_zero R), fun R R' _ hR' => absurd hR' (Nat.not_lt_zero R')⟩, fun R hR => absurd hR (Nat.not_lt_zero R), fun j hj => absurd hj (Nat.not_lt_zero j), fun R R' hR => absurd hR (Nat.not_lt_zero R)⟩, ?_⟩
  rintro ⟨l1, s2⟩ ⟨i1, i2, i3, l, i4, i5, i6, i7, i8, n, f, F, lo, hi, ds, i9, i10⟩
  dsimp only at i1 i2 i3 i4 i6 i7 i8 i9 i10 ⊢
  subst i4
  have e6 := fa_f i2 6 (by first | decide | omega | (dsimp only; omega) | (dsimp only; decide))
  have e10 := fa_f i2 10 (by first | decide | omega | (dsimp only; omega) | (dsimp only; decide))
  have e34 : wgf s2 34 = nb := i6.1
  unfold W_findAll_83
  rw [e34]
  refine ⟨fun c => ?_, fun c => ?_⟩
  · have el : l = nb := by first | omega | (dsimp only; omega)
    rw [el] at i9 i10
    exact ord_104z i9 i6 (by first | omega | (dsimp only; omega)) nb80 (by first | omega | (dsimp only; omega)) (fun i hi => by rw [i3]; exact h606 i hi) (fun i hi => by rw [e6] at hi; rw [fa_r i2 _ _ (by first | decide | omega | (dsimp only; omega) | (dsimp only; decide))]; exact h584 i hi) (by first | omega | (dsimp only; omega)) (mok_co (fun i _ => fa_r i2 _ _ (by first | decide | omega | (dsimp only; omega) | (dsimp only; decide))) hm) i1 hX hL hS (fun e i he hi => by rw [i3]; exact hT e i he hi) i10 (fun s' od a1 a2 a3 => hQ s' n f F lo hi ds od a1 a2 a3)
  · obtain ⟨p1, p2⟩ := i6.2.1 l (by first | omega | (dsimp only; omega))
    have dl : dsm b (l + 1) ≤ 80 := by
      have := dsm_mo (c := b) (n := l + 1) (m := nb - (l + 1))
      rw [show l + 1 + (nb - (l + 1)) = nb by first | omega | (dsimp only; omega)] at this
      omega
    have dl2 : dsm b (l + 1) = dsm b l + ((b l).length - 1) := rfl
    have b2 := p2.2.2.1
    have nl := i9.2.2.2.1
    refine findRoots_okc (R0 := n) (by first | omega | (dsimp only; omega)) p1 p2 (by first | omega | (dsimp only; omega)) i9.2.1 i9.2.2.1 (by first | omega | (dsimp only; omega)) (by first | omega | (dsimp only; omega)) (by first | omega | (dsimp only; omega)) (fun s3 c N k lf rf Lmin Rend g G a1 a2 a3 a4 a5 a6 a7 a8 a9 a10 a11 a12 a14 a15 => ?_)
    have nzb : nzp (b l) := ⟨(b l).length - 1, p2.1.1.2.2.1 _ (by omega)⟩
    have ex : ∀ r : Nat, ∃ (lo hi : Rat) (y : Rat → Int), r < k → ((lf r ≤ lo ∧ hi ≤ rf r) ∧ cut y ∧ rtc (b l) y ∧ (y (lf r) = 1 ∧ y (rf r) ≠ 1) ∧ rkc s3 (n + r) G lo hi y ∧ (wga s3 609 ((n + r : Nat) : Int) = 0 → rti s3 ((n + r : Nat) : Int) g G lo hi)) := fun r => by
      by_cases hrk : r < k
      · obtain ⟨x1, x2, x3, x4⟩ := cut_r a5 a6 p2.2.1 nzb a7 a14.2 a9 a11 hrk
        exact ⟨x1, x2, x3, fun _ => x4⟩
      · exact ⟨0, 0, fun _ => 0, fun w => absurd w hrk⟩
    obtain ⟨lf', ex⟩ := Classical.axiomOfChoice ex
    obtain ⟨rf', ex⟩ := Classical.axiomOfChoice ex
    obtain ⟨cs, ex⟩ := Classical.axiomOfChoice ex
    have a13 := rq_stepc i9 a1 a3.1 a2.1 (by first | omega | (dsimp only; omega)) a4 (by first | omega | (dsimp only; omega)) p2.1 a7 a9 a10 (lf' := lf') (rf' := rf') (fun r hr => (ex r hr).1) (fun r hr => (ex r hr).2.2.2.2.2)
    have a16 := rqc_step (s' := s3) (k := k) (G := G) (lf := lf) (rf := rf) (lf' := lf') (rf' := rf') (cs := cs) i10 (fun c R hR hc => a1.2 c (R : Int).toNat (by omega) (by omega) (by omega) (by omega) (by omega) (by omega) (by omega) (by omega)) (fun j hj => i6.2.2 j l hj (by omega)) (fun r hr => (a7.2.2.1 r hr).1.1) (fun r hr => ⟨(ex r hr).2.1, (ex r hr).2.2.1, (ex r hr).2.2.2.1, (ex r hr).2.2.2.2.1⟩) a7.2.2.2.1 (fun y cy ty => by
      obtain ⟨y1, y2⟩ := a15 y cy ty
      obtain ⟨r, r1, r2, r3⟩ := a14.1 y cy ty y1 (by omega)
      have z := ex r r1
      exact ⟨r, r1, sturm_one a5 cy z.2.1 (by rw [a6]; exact ty) (by rw [a6]; exact z.2.2.1) r2 r3 z.2.2.2.1.1 z.2.2.2.1.2 (by have := a14.2 r r1; omega)⟩)
    have m1 := fro_fa a1
    refine ⟨by unfold iR; first | omega | (dsimp only; omega), ⟨fa_tr i1 m1, fa_tr i2 m1, fun i => ?_, l + 1, by first | omega | (dsimp only; omega), by first | omega | (dsimp only; omega), ⟨?_, fun j hj => ?_, i6.2.2⟩, by first | omega | (dsimp only; omega), by first | omega | (dsimp only; omega), n + k, _, _, _, _, _, a13, a16⟩, by first | omega | (dsimp only; omega)⟩
    · rw [← i3 i]
      exact a1.2 606 (i : Int).toNat (by first | omega | (dsimp only; omega)) (by first | omega | (dsimp only; omega)) (by first | omega | (dsimp only; omega)) (by first | decide | omega | (dsimp only; omega) | (dsimp only; decide)) (by first | decide | omega | (dsimp only; omega) | (dsimp only; decide)) (by first | omega | (dsimp only; omega)) (by first | decide | omega | (dsimp only; omega) | (dsimp only; decide)) (by first | decide | omega | (dsimp only; omega) | (dsimp only; decide))
    · have : wgf s3 34 = wgf s2 34 := a1.1 582 34 (by first | omega | (dsimp only; omega))
      rw [this]; exact e34
    · have r2 : wga s3 602 (j : Int) = wga s2 602 (j : Int) := a1.2 602 (j : Int).toNat (by first | omega | (dsimp only; omega)) (by first | omega | (dsimp only; omega)) (by first | omega | (dsimp only; omega)) (by first | decide | omega | (dsimp only; omega) | (dsimp only; decide)) (by first | decide | omega | (dsimp only; omega) | (dsimp only; decide)) (by first | omega | (dsimp only; omega)) (by first | decide | omega | (dsimp only; omega) | (dsimp only; decide)) (by first | decide | omega | (dsimp only; omega) | (dsimp only; decide))
      obtain ⟨u1, u2⟩ := i6.2.1 j hj
      refine ⟨?_, u2⟩
      try dsimp only
      rw [r2]
      exact fro_pol a1 a3.1 a2.1 (by first | omega | (dsimp only; omega)) u1
theorem all_53z {s0 s : im_S} {n m : Nat} {c : Nat → List Int} {A : Nat → List Int} {ma : Nat} {ao tm : Nat → Nat} {Q : im_S → Prop} (hf : fi s n c) (hd : dsm c n ≤ 80) (h34 : wgf s 34 = 0) (h41 : wgf s 41 = 0) (h52 : wgf s 52 = 0) (h6 : 0 ≤ wgf s 6 ∧ wgf s 6 ≤ 10) (h584 : ∀ i : Nat, (i : Int) < 9 * wgf s 6 → -1000000000 ≤ wga s 584 (i : Int) ∧ wga s 584 (i : Int) ≤ 1000000000) (h10 : wgf s 10 = m) (hm : mok s m) (hfa : fa s0 s) {w L : Nat → Int} (hX : XPR s0 A ma m w) (hL : LSG A L ∧ ∀ a, L a = -1 ∨ L a = 0 ∨ L a = 1) (hV : FV A ma n c ao tm) (h45 : rw45 s n ao tm) (hQ : ∀ (s' : im_S) (n nb : Nat) (b : Nat → List Int) (T : Nat → Nat → Nat) (f : Nat → Int) (F : Nat → List Int) (lo hi : Nat → Rat) (ds : Nat → Rat → Int) (od : Nat → Nat), fa s0 s' → RVl s' A ma n nb b T f F lo hi ds od → SGR s' ma n T od w L m → Q s') : wloop (fun (K : Int × im_S → Prop) (a : Int × im_S) => W_findAll_53 K a.1 a.2 Q) (0, s) := by
  obtain ⟨g1, g2, g3, g4, g5⟩ := hf
  have n80 : n ≤ 80 := by
    have := dsm_n (c := c) (n := n) (fun k hk => (g5 k hk).2.1.2.2.1)
    omega
  refine ⟨fun a => fa s a.2 ∧ wgf a.2 41 = 0 ∧ wgf a.2 52 = 0 ∧ fx a.2 n c ∧ ∃ l : Nat, a.1 = l ∧ l ≤ n ∧ (0 ≤ wgf a.2 24 ∧ wgf a.2 24 ≤ 40 * n + 72 * (dsm c l : Nat)) ∧ (0 ≤ wgf a.2 28 ∧ wgf a.2 28 ≤ n + 2 * (dsm c l : Nat)) ∧ ∃ (nb : Nat) (b : Nat → List Int), bi a.2 nb b ∧ dsm b nb ≤ dsm c l ∧ rw45 a.2 n ao tm ∧ ∃ X, XI c l nb b X, fun a => (n - a.1).toNat, ⟨fa_rfl, h41, h52, ⟨g1, n80, g5⟩, 0, rfl, by first | omega | (dsimp only; omega), by first | omega | (dsimp only; omega), by first | omega | (dsimp only; omega), 0, fun _ => [], ⟨h34, fun k hk => absurd hk (Nat.not_lt_zero k), fun i j _ hj => absurd hj (Nat.not_lt_zero j)⟩, Nat.le_refl _, h45, fun _ _ => 0, fun k hk => absurd hk (Nat.not_lt_zero k), fun k hk => absurd hk (Nat.not_lt_zero k)⟩, ?_⟩
  rintro ⟨l1, s2⟩ ⟨i1, i2, i3, i4, l, i5, i6, i7, i8, nb, b, i9, i10, i11, X, i12⟩
  dsimp only at i1 i2 i3 i4 i5 i7 i8 i9 i11 ⊢
  subst i5
  have e6 := fa_f i1 6 (by first | decide | omega | (dsimp only; omega) | (dsimp only; decide))
  have e10 := fa_f i1 10 (by first | decide | omega | (dsimp only; omega) | (dsimp only; decide))
  have e36 : wgf s2 36 = n := i4.1
  have dl : dsm c l ≤ 80 := by
    have := dsm_mo (c := c) (n := l) (m := n - l)
    rw [show l + (n - l) = n by first | omega | (dsimp only; omega)] at this
    omega
  unfold W_findAll_53
  rw [e36]
  refine ⟨fun q => ?_, fun q => ⟨by first | omega | (dsimp only; omega), ?_⟩⟩
  · have ln : l = n := by omega
    subst ln
    refine findTimes_okv (n := l) (nb := nb) (by first | omega | (dsimp only; omega)) (by first | omega | (dsimp only; omega)) i4 i9 (by first | omega | (dsimp only; omega)) i12 i11 hV.2.2 (fun s3 a1 a2 a3 a4 a44 => ?_)
    have fa3 : fa s2 s3 := pw_fa a1 (fun f hf => by simp at hf; omega) (fun c hc => by simp at hc; omega)
    have fs3 := fa_tr i1 fa3
    have x6 := fa_f fs3 6 (by first | decide | omega | (dsimp only; omega) | (dsimp only; decide))
    have x10 := fa_f fs3 10 (by first | decide | omega | (dsimp only; omega) | (dsimp only; decide))
    refine all_83z (m := m) (pw_bi a1 (by first | decide | omega | (dsimp only; omega) | (dsimp only; decide)) (fun r hr => by simp at hr; omega) (by first | omega | (dsimp only; omega)) (by first | omega | (dsimp only; omega)) (by first | omega | (dsimp only; omega)) i9) (by first | omega | (dsimp only; omega)) (by first | omega | (dsimp only; omega)) (by first | omega | (dsimp only; omega)) ?_ ?_ (by first | omega | (dsimp only; omega)) a4 (fun i hi => ?_) (by first | omega | (dsimp only; omega)) (mok_co (fun i _ => fa_r fs3 _ _ (by first | decide | omega | (dsimp only; omega) | (dsimp only; decide))) hm) (fa_tr hfa fs3) hX hL (FV_SYS hV i12 i9.2.2 (fun e he => ⟨⟨(b e).length - 1, (i9.2.1 e he).2.1.1.2.2.1 _ (by have := (i9.2.1 e he).2.2.2.1; omega)⟩, (i9.2.1 e he).2.2.1⟩) (fun k hk => by have z := (i4.2.2 k hk).2.2.2.1; rw [(i11 k hk).2] at z; omega)) (fun e i he hi => by rw [a44 e i he hi, if_pos he]) (fun s' n' f F lo hi ds od b1 b2 b3 => hQ s' n' nb b _ f F lo hi ds od b1 b2 b3)
    · rw [pw_f a1 (by first | decide | omega | (dsimp only; omega) | (dsimp only; decide))]; exact i2
    · rw [pw_f a1 (by first | decide | omega | (dsimp only; omega) | (dsimp only; decide))]; exact i3
    · rw [x6] at hi
      rw [fa_r fs3 _ _ (by first | decide | omega | (dsimp only; omega) | (dsimp only; decide))]; exact h584 i hi
  · have dl2 : dsm c (l + 1) = dsm c l + ((c l).length - 1) := rfl
    have dl3 : dsm c (l + 1) ≤ 80 := by
      have := dsm_mo (c := c) (n := l + 1) (m := n - (l + 1))
      rw [show l + 1 + (n - (l + 1)) = n by first | omega | (dsimp only; omega)] at this
      omega
    obtain ⟨p1, p2, _⟩ := i4.2.2 l (by first | omega | (dsimp only; omega))
    refine join_okv (nb := nb) (b := b) (by first | omega | (dsimp only; omega)) (by first | omega | (dsimp only; omega)) p1 p2 i9 (by first | omega | (dsimp only; omega)) (fun s3 N b' a1 a2 a3 a4 a5 a6 a7 a8 => ?_)
    have fa3 : fa s2 s3 := pw_fa a1 (fun f hf => by simp at hf; omega) (fun c hc => by simp at hc; omega)
    refine ⟨by unfold iR; first | omega | (dsimp only; omega), ⟨fa_tr i1 fa3, ?_, ?_, pw_fx a1 (by first | decide | omega | (dsimp only; omega) | (dsimp only; decide)) (fun r hr => by simp at hr; omega) (by first | omega | (dsimp only; omega)) (by first | omega | (dsimp only; omega)) (by first | omega | (dsimp only; omega)) i4, l + 1, by first | omega | (dsimp only; omega), by first | omega | (dsimp only; omega), by first | omega | (dsimp only; omega), by first | omega | (dsimp only; omega), N, b', a2, by first | omega | (dsimp only; omega), fun k hk => by rw [pw_r a1 (by decide) (by decide) (by decide) (by decide), pw_r a1 (by decide) (by decide) (by decide) (by decide)]; exact i11 k hk, XI_s i12 a8 a2.2.2⟩, by first | omega | (dsimp only; omega)⟩
    · (try dsimp only); rw [pw_f a1 (by first | decide | omega | (dsimp only; omega) | (dsimp only; decide))]; exact i2
    · (try dsimp only); rw [pw_f a1 (by first | decide | omega | (dsimp only; omega) | (dsimp only; decide))]; exact i3
theorem findAll_okz {s : im_S} {m : Nat} {Q : im_S → Prop} (h6 : 0 ≤ wgf s 6 ∧ wgf s 6 ≤ 10) (h584 : ∀ i : Nat, (i : Int) < 9 * wgf s 6 → -1000000000 ≤ wga s 584 (i : Int) ∧ wga s 584 (i : Int) ≤ 1000000000) (h10 : wgf s 10 = m) (hm : mok s m) {A : Nat → List Int} {ma : Nat} (hma : wgf s 6 = (ma : Int)) {w L : Nat → Int} (hX : XPR s A ma m w) (hL : LSG A L ∧ ∀ a, L a = -1 ∨ L a = 0 ∨ L a = 1) (hA : ∀ i : Nat, i < ma → A i = pmk 9 (fun k => wga s 584 (9 * (i : Int) + k))) (hQ : ∀ (s' : im_S) (n nb : Nat) (b : Nat → List Int) (T : Nat → Nat → Nat) (f : Nat → Int) (F : Nat → List Int) (lo hi : Nat → Rat) (ds : Nat → Rat → Int) (od : Nat → Nat), fa s s' → RVl s' A ma n nb b T f F lo hi ds od → SGR s' ma n T od w L m → Q s') : W_findAll s Q := by
  unfold W_findAll
  intro s1 e1 s2 e2 s3 e3 s4 e4 s5 e5 s6 e6
  have f6 : fa s s6 := by
    rw [e6, e5, e4, e3, e2, e1]
    exact wpf_fa (wpf_fa (wpf_fa (wpf_fa (wpf_fa (wpf_fa fa_rfl (by first | decide | omega | (dsimp only; omega) | (dsimp only; decide))) (by first | decide | omega | (dsimp only; omega) | (dsimp only; decide))) (by first | decide | omega | (dsimp only; omega) | (dsimp only; decide))) (by first | decide | omega | (dsimp only; omega) | (dsimp only; decide))) (by first | decide | omega | (dsimp only; omega) | (dsimp only; decide))) (by first | decide | omega | (dsimp only; omega) | (dsimp only; decide))
  have v28 : wgf s6 28 = 0 := by rw [e6, e5, e4, e3, e2, e1]; rfl
  have v24 : wgf s6 24 = 0 := by rw [e6, e5, e4, e3, e2, e1]; rfl
  have v34 : wgf s6 34 = 0 := by rw [e6, e5, e4, e3, e2, e1]; rfl
  have v36 : wgf s6 36 = 0 := by rw [e6, e5, e4, e3, e2, e1]; rfl
  have v41 : wgf s6 41 = 0 := by rw [e6, e5, e4, e3, e2, e1]; rfl
  have v52 : wgf s6 52 = 0 := by rw [e6, e5, e4, e3, e2, e1]; rfl
  refine ⟨fun a => fa s a.2 ∧ wgf a.2 34 = 0 ∧ wgf a.2 41 = 0 ∧ wgf a.2 52 = 0 ∧ ∃ l : Nat, a.1 = l ∧ (l : Int) ≤ wgf s 6 ∧ ∃ (n : Nat) (c : Nat → List Int), fi a.2 n c ∧ dsm c n ≤ 8 * l ∧ ∃ ao tm, FV A l n c ao tm ∧ rw45 a.2 n ao tm, fun a => (wgf s 6 - a.1).toNat, ⟨f6, v34, v41, v52, 0, rfl, h6.1, 0, fun _ => [], ⟨v36, v28, by rw [v24]; decide, by rw [v24]; decide, fun k hk => absurd hk (Nat.not_lt_zero k)⟩, Nat.le_refl _, fun _ => 0, fun _ => 0, ⟨fun k hk => absurd hk (Nat.not_lt_zero k), fun k hk => absurd hk (Nat.not_lt_zero k), fun k k' _ hk => absurd hk (Nat.not_lt_zero k')⟩, fun k hk => absurd hk (Nat.not_lt_zero k)⟩, ?_⟩
  rintro ⟨l1, s7⟩ ⟨i1, i2, i3, i4, l, i5, i6, n, c, i7, i8, ao, tm, i9, i10⟩
  dsimp only at i1 i2 i3 i4 i5 i7 i10 ⊢
  subst i5
  have x6 := fa_f i1 6 (by first | decide | omega | (dsimp only; omega) | (dsimp only; decide))
  have x10 := fa_f i1 10 (by first | decide | omega | (dsimp only; omega) | (dsimp only; decide))
  unfold W_findAll_32
  rw [x6]
  refine ⟨fun q => ?_, fun q => ?_⟩
  · exact all_53z (m := m) i7 (by first | omega | (dsimp only; omega)) i2 i3 i4 (by first | omega | (dsimp only; omega)) (fun i hi => by rw [x6] at hi; rw [fa_r i1 _ _ (by first | decide | omega | (dsimp only; omega) | (dsimp only; decide))]; exact h584 i hi) (by first | omega | (dsimp only; omega)) (mok_co (fun i _ => fa_r i1 _ _ (by first | decide | omega | (dsimp only; omega) | (dsimp only; decide))) hm) i1 hX hL (by rw [show ma = l by omega]; exact i9) i10 hQ
  · refine part1_okv (v := fun k => wga s7 584 (9 * (l : Int) + k)) (by first | omega | (dsimp only; omega)) (fun k hk => rfl) (fun k hk => ?_) i7 (by first | omega | (dsimp only; omega)) (fun s8 n' c' a1 a2 a3 a4 a5 => ?_)
    · skip
      rw [fa_r i1 _ _ (by first | decide | omega | (dsimp only; omega) | (dsimp only; decide))]
      have := h584 (9 * l + k) (by first | omega | (dsimp only; omega))
      rw [show ((9 * l + k : Nat) : Int) = 9 * (l : Int) + k by first | omega | (dsimp only; omega)] at this
      exact this
    · have fa3 : fa s7 s8 := pw_fa a1 (fun f hf => by simp at hf; omega) (fun c hc => by simp at hc; omega)
      refine ⟨by unfold iR; first | omega | (dsimp only; omega), ⟨fa_tr i1 fa3, ?_, ?_, ?_, l + 1, by first | omega | (dsimp only; omega), by first | omega | (dsimp only; omega), n', c', a2, by first | omega | (dsimp only; omega), FV_s i9 i10 a5 (by rw [hA l (by omega)]; congr 1; funext k; exact (fa_r i1 _ _ (by omega)).symm)⟩, by first | omega | (dsimp only; omega)⟩
      · (try dsimp only); rw [pw_f a1 (by first | decide | omega | (dsimp only; omega) | (dsimp only; decide))]; exact i2
      · (try dsimp only); rw [pw_f a1 (by first | decide | omega | (dsimp only; omega) | (dsimp only; decide))]; exact i3
      · (try dsimp only); rw [pw_f a1 (by first | decide | omega | (dsimp only; omega) | (dsimp only; decide))]; exact i4
