/-! THE REFERENCE'S SIGNS AND WHAT HOLDS, by value -/
theorem sgc_3 {L : Int} {mu : Nat → Nat} {N c : Nat} (h : L = -1 ∨ L = 0 ∨ L = 1) : sgc L mu N c = -1 ∨ sgc L mu N c = 0 ∨ sgc L mu N c = 1 := by
  unfold sgc
  split
  · exact mkd_b h _
  · split
    · exact mkd_b h _
    · exact Or.inr (Or.inl rfl)
theorem stZ9_co {t : Nat → Bool} {s s' : im_S} (h : ∀ x : Int, wga s' 586 x = wga s 586 x) : ∀ k : Nat, stZ9 t s' k = stZ9 t s k
  | 0 => rfl
  | k + 1 => by
    show bs1 t (rcd (wga s' 586 (k : Int))) (stZ9 t s' k) = bs1 t (rcd (wga s 586 (k : Int))) (stZ9 t s k)
    rw [h, stZ9_co h k]
theorem signAll_z {s : im_S} {A : Nat → List Int} {m n nb mm : Nat} {b : Nat → List Int} {T : Nat → Nat → Nat} {f : Nat → Int} {F : Nat → List Int} {lo hi : Nat → Rat} {ds : Nat → Rat → Int} {od : Nat → Nat} {L : Nat → Int} {Q : im_S → Prop} (h : RVl s A m n nb b T f F lo hi ds od) (h6 : wgf s 6 = (m : Int) ∧ m ≤ 10 ∧ ∀ i, i < m → pdb (A i) 9 ∧ ∀ k : Nat, k < 9 → wga s 584 (9 * (i : Int) + k) = pgt (A i) k) (hL : LSG A L ∧ ∀ a, L a = -1 ∨ L a = 0 ∨ L a = 1) (hn : wgf s 10 = mm) (hm : mok s mm) {w : Nat → Int} (hw : ∀ i : Nat, i < m → wga s 585 (i : Int) = w i) (hk : ∀ k : Nat, k < mm → wga s 586 (k : Int) < (m : Int)) (m0 : 1 ≤ mm) (md : mdp s mm = 1) (hQ : ∀ s' : im_S, rwr [588, 617, 618] s s' → rdy s' n nb f F lo hi → (∀ c a : Nat, c ≤ 2 * n → a < m → wga s' 617 ((10 * c + a : Nat) : Int) = sgc (L a) (fun k => T (owR s od k) a) n c) → (∀ c : Nat, c ≤ 2 * n → wga s' 618 (c : Int) = b2i (stZ9 (fun a => decide (sgc (L a) (fun k => T (owR s od k) a) n c = due (w a))) s mm 0)) → Q s') : W_signAll s Q := by
  have n80 := h.1.1.1
  have e41 := h.1.2.1
  obtain ⟨e6, m10, hA⟩ := h6
  have sub : ∀ c, c ∈ [588, 617, 618] → c = 588 ∨ c = 617 ∨ c = 618 := fun c hc => by simpa using hc
  unfold W_signAll
  refine ⟨fun a => rwr [588, 617, 618] s a.2 ∧ ∃ i : Nat, a.1 = (i : Int) ∧ i ≤ m ∧ ∀ c x : Nat, c ≤ 2 * n → x < i → wga a.2 617 ((10 * c + x : Nat) : Int) = sgc (L x) (fun k => T (owR s od k) x) n c, fun a => ((m : Int) - a.1).toNat, ⟨rwr_rfl, 0, rfl, by omega, fun c x _ hx => by omega⟩, ?_⟩
  rintro ⟨l1, s2⟩ ⟨i1, i, ei, im, t2⟩
  dsimp only at i1 ei t2 ⊢
  subst ei
  have q6 := rwr_f i1 6
  have q41 := rwr_f i1 41
  have r2 := rwr_rdy i1 sub h.1
  have V : ∀ s', rwr [588, 617, 618] s s' → RVl s' A m n nb b T f F lo hi ds od ∧ ∀ k, owR s' od k = owR s od k := fun s' w => ⟨RVl_co h (rwr_rdy w sub h.1) (fun c i hc => rwr_r w c i (fun z => by have := sub c z; omega)), fun k => by unfold owR; rw [rwr_r w 607 _ (by decide)]⟩
  unfold W_signAll_2
  rw [q6, e6]
  refine ⟨fun c => ?_, fun c => ?_⟩
  · have eim : i = m := by omega
    subst eim
    refine ⟨fun a => rwr [588, 617, 618] s a.2 ∧ (0 ≤ a.1 ∧ a.1 ≤ 2 * wgf s 41 + 1) ∧ (∀ q : Nat, wga a.2 617 ((q : Nat) : Int) = wga s2 617 ((q : Nat) : Int)) ∧ ∀ c : Nat, (c : Int) < a.1 → wga a.2 618 (c : Int) = b2i (stZ9 (fun a => decide (sgc (L a) (fun k => T (owR s od k) a) n c = due (w a))) s mm 0), fun a => (2 * wgf s 41 + 1 - a.1).toNat, ⟨i1, ⟨Int.le_refl 0, by show (0 : Int) ≤ _; omega⟩, fun _ => rfl, fun c hc => by have : (c : Int) < 0 := hc; omega⟩, ?_⟩
    rintro ⟨k, s3⟩ ⟨j1, j2, j3, j4⟩
    dsimp only at j1 j2 j3 j4 ⊢
    have p41 := rwr_f j1 41
    have p10 := rwr_f j1 10
    have e86 : ∀ x : Int, wga s3 586 x = wga s 586 x := fun x => rwr_r j1 586 x (by decide)
    have e85 : ∀ x : Int, wga s3 585 x = wga s 585 x := fun x => rwr_r j1 585 x (by decide)
    have eS : ∀ t, stZ9 t s3 mm = stZ9 t s mm := fun t => stZ9_co (fun x => e86 x) mm
    have eM : mdp s3 mm = 1 := by rw [mdp_co (s := s) (s' := s3) (k := mm) (fun x _ => e86 x)]; exact md
    unfold W_signAll_151
    refine cells_ok (by omega) ⟨fun _ => hQ s3 j1 (rwr_rdy j1 sub h.1) (fun c a hc ha => by rw [j3]; exact t2 c a hc ha) (fun c hc => j4 c (by omega)), fun c' => ?_⟩
    obtain ⟨c, rfl⟩ : ∃ c : Nat, k = (c : Int) := ⟨k.toNat, by omega⟩
    have c2 : c ≤ 2 * n := by omega
    refine isSo_v (n := mm) (sg := fun a => sgc (L a) (fun k => T (owR s od k) a) n c) (w := w) (by omega) (by omega) (mok_co (fun x _ => e86 x) hm) m0 (fun x hx h0 => ?_) (fun s4 b1 vv => ⟨by omega, fun s5 e5 => ⟨by unfold iR; omega, ⟨?_, by dsimp only; omega, fun q => ?_, fun d hd => ?_⟩, by dsimp only; omega⟩⟩)
    · rw [e86] at h0 ⊢
      have hx' := hk x hx
      obtain ⟨y, hy⟩ : ∃ y : Nat, wga s 586 (x : Int) = (y : Int) := ⟨(wga s 586 (x : Int)).toNat, by omega⟩
      rw [hy] at hx' ⊢
      rw [Int.toNat_natCast, show 10 * (c : Int) + (y : Int) = ((10 * c + y : Nat) : Int) by omega, j3, e85]
      exact ⟨t2 c y c2 (by omega), hw y (by omega), sgc_3 (hL.2 y)⟩
    · dsimp only
      rw [e5]
      exact rwr_pa (rwr_tr j1 (rwr_mono b1 (by simp))) (by decide)
    · dsimp only
      rw [e5, wg_row (by decide), rwr_r b1 617 _ (by decide)]
      exact j3 q
    · dsimp only at hd ⊢
      rw [e5]
      by_cases ed : d = c
      · subst ed
        rw [wg_same, vv eM, eS]
      · rw [wg_ne (by omega) (by omega) (by omega), rwr_r b1 618 _ (by decide)]
        exact j4 d (by omega)
  · have im' : i < m := by omega
    obtain ⟨h9, hr⟩ := hA i im'
    refine degreeOf_w9 (P := A i) (by omega) (fun k hk => by rw [rwr_r i1 584 _ (by decide)]; exact hr k hk) h9 (fun d hd => ?_)
    have d1 := hd.1
    have d8 := hd.2.1
    have Li := hL.1 i d hd
    refine ⟨fun _ => by unfold iR; omega, fun _ => by omega, fun v hv => ⟨by unfold iR; omega, by omega, fun s3 e3 => ?_⟩⟩
    have vL : v = L i := by
      rw [hv, Li]
      unfold ldS
      by_cases d0 : 0 ≤ d
      · rw [if_pos d0, if_pos d0]
        have z := hr d.toNat (by omega)
        rw [show ((d.toNat : Nat) : Int) = d by omega] at z
        rw [rwr_r i1 584 _ (by decide), z]
      · rw [if_neg d0, if_neg d0]
    subst vL
    have i3 : rwr [588, 617, 618] s s3 := by rw [e3]; exact rwr_pa i1 (by decide)
    have q3 := rwr_f i3 41
    refine ⟨by unfold iR; omega, ?_⟩
    obtain ⟨mu, hmu⟩ : ∃ mu : Nat → Nat, mu = fun k => T (owR s od k) i := ⟨_, rfl⟩
    have r3 : ∀ q : Nat, wga s3 617 ((q : Nat) : Int) = if q = 20 * n + i then L i else wga s2 617 ((q : Nat) : Int) := fun q => by
      rw [e3, wg9 (by omega), show (20 * wgf s2 41 + (i : Int)).toNat = 20 * n + i by omega]
    refine ⟨fun a => rwr [588, 617, 618] s a.2.2 ∧ ∃ j : Nat, j ≤ n ∧ a.2.1 = (n : Int) - 1 - j ∧ a.1 = mkd (L i) mu n j ∧ (∀ x, x ≤ j → wga a.2.2 617 ((20 * (n - x) + i : Nat) : Int) = mkd (L i) mu n x) ∧ (∀ x, x < j → wga a.2.2 617 ((20 * (n - (x + 1)) + 10 + i : Nat) : Int) = if mu (n - (x + 1)) = 0 then mkd (L i) mu n x else 0) ∧ ∀ q : Nat, q % 10 ≠ i → wga a.2.2 617 ((q : Nat) : Int) = wga s2 617 ((q : Nat) : Int), fun a => (a.2.1 + 1).toNat, ⟨i3, 0, by omega, by dsimp only; omega, rfl, fun x hx => by dsimp only; rw [r3, if_pos (by omega), show x = 0 by omega]; rfl, fun x hx => by omega, fun q hq => by dsimp only; rw [r3, if_neg (by omega)]⟩, ?_⟩
    rintro ⟨l3, l4, s4⟩ ⟨j1, j, jn, e4, e5, b1, b2, b3⟩
    dsimp only at j1 e4 e5 b1 b2 b3 ⊢
    unfold W_signAll_69
    refine ⟨fun c' => ⟨by unfold iR; omega, ⟨j1, i + 1, by dsimp only; omega, by omega, fun c x hc hx => ?_⟩, by dsimp only; omega⟩, fun c' => ?_⟩
    · have : j = n := by omega
      subst this
      dsimp only
      by_cases z : x = i
      · subst z
        have tb := sg_tab (r := fun q => wga s4 617 ((q : Nat) : Int)) (L := L x) (mu := mu) (N := j) (a := x) b1 b2 hc
        rw [hmu] at tb
        exact tb
      · rw [b3 _ (by omega)]
        exact t2 c x hc (by omega)
    · obtain ⟨k, hk⟩ : ∃ k : Nat, k = n - (j + 1) := ⟨_, rfl⟩
      have l4k : l4 = (k : Int) := by omega
      subst l4k
      obtain ⟨V4, O4⟩ := V s4 j1
      refine timesAt_w V4 ⟨by omega, by omega⟩ ⟨by omega, by omega⟩ ?_
      rw [Int.toNat_natCast, Int.toNat_natCast, O4, show T (owR s od k) i = mu k by rw [hmu]]
      have l3b := mkd_b (m := mu) (N := n) (hL.2 i) j
      rw [← e5] at l3b
      refine ⟨fun _ => by unfold iR; omega, fun w hw => ⟨by unfold iR; omega, by unfold iR; omega, by unfold iR; omega, by unfold iR; omega, fun u hu => ⟨by omega, fun s5 e5' => ⟨by unfold iR; omega, by omega, fun s6 e6' => ?_⟩⟩⟩⟩
      have wv : w = mkd (L i) mu n (j + 1) := by
        show w = if mu (n - (j + 1)) % 2 = 1 then -(mkd (L i) mu n j) else mkd (L i) mu n j
        rw [hw, ← hk, ← e5]
        by_cases z : mu k % 2 = 1
        · rw [if_pos z, if_neg (fun y => y ((tmod_2 _).2 z))]
        · rw [if_neg z, if_pos (fun y => z ((tmod_2 _).1 y))]
      have uv : u = if mu k = 0 then l3 else 0 := by
        rw [hu]
        by_cases z : mu k = 0
        · rw [if_pos (by omega), if_pos z, hw, z, if_pos (by decide)]
        · rw [if_neg (by omega), if_neg z]
      have row : ∀ q : Nat, wga s6 617 ((q : Nat) : Int) = if q = 20 * k + i then w else if q = 20 * k + 10 + i then u else wga s4 617 ((q : Nat) : Int) := fun q => by
        rw [e6', wg9 (by omega), show (20 * (k : Int) + (i : Int)).toNat = 20 * k + i by omega, e5', wg9 (by omega), show (10 * (2 * (k : Int) + 1) + (i : Int)).toNat = 20 * k + 10 + i by omega]
      refine ⟨by unfold iR; omega, ⟨?_, j + 1, by omega, by dsimp only; omega, wv, fun x hx => ?_, fun x hx => ?_, fun q hq => ?_⟩, by dsimp only; omega⟩
      · dsimp only
        rw [e6', e5']; exact rwr_pa (rwr_pa j1 (by decide)) (by decide)
      · dsimp only
        rw [row]
        by_cases z : x = j + 1
        · subst z
          rw [if_pos (by omega)]; exact wv
        · rw [if_neg (by omega), if_neg (by omega)]
          exact b1 x (by omega)
      · dsimp only
        rw [row]
        by_cases z : x = j
        · subst z
          rw [if_neg (by omega), if_pos (by omega), ← hk, ← e5]; exact uv
        · rw [if_neg (by omega), if_neg (by omega)]
          exact b2 x (by omega)
      · dsimp only
        rw [row, if_neg (by omega), if_neg (by omega)]
        exact b3 q hq
