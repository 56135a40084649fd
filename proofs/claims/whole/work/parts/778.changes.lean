/-! changes, by value -/
/-- what is left of the row that is tested, behind i sweeps -/
def tlr (n : Nat) (q : List Int) : List Int := fsw 1 n q
theorem sg_mul {a b : Int} (ha : a = -1 ∨ a = 0 ∨ a = 1) : (b.sign * a < 0) ↔ (a * b < 0) := by
  rw [mul_neg_iff, mul_neg_iff]
  have h1 : b.sign < 0 ↔ b < 0 := Int.sign_neg_iff
  have h2 : 0 < b.sign ↔ 0 < b := Int.sign_pos_iff
  omega
theorem sign_r (b : Int) : b.sign = -1 ∨ b.sign = 0 ∨ b.sign = 1 := by
  rcases Int.lt_trichotomy b 0 with c | c | c
  · exact Or.inl (Int.sign_eq_neg_one_of_neg c)
  · subst c; exact Or.inr (Or.inl rfl)
  · exact Or.inr (Or.inr (Int.sign_eq_one_of_pos c))
theorem changes_b {s : im_S} {d M : Nat} {m : List Int} {Q : Int → im_S → Prop} (hd : s.1 267 4 = (d : Int)) (d8 : d ≤ 8) (hm : m.length = d + 1) (hs : bgs s 270 d m) (hM : pab m M) (hB : ((M * ffl d d : Nat) : Int) < BB) (hQ : ∀ z s', (z ≤ 0 → pV m = 0) → (z = 1 → pV m = 1) → (2 ≤ z → 2 ≤ pV m) → tsf s s' → Q z s') : C_changes5 s Q := by
  refine mixed_b hd d8 hm hs (fun z hz => ⟨fun z0 => ?_, fun z0 => hQ 0 s (fun _ => hz z0) (fun h => by omega) (fun h => by omega) (gfr_refl _ _ _)⟩)
  have M0 : (M : Int) < BB := by
    have a := ffl_pos d d (by omega)
    have : M * 1 ≤ M * ffl d d := Nat.mul_le_mul_left _ a
    omega
  -- the row turned round
  refine ⟨fun a => ∃ i : Nat, a.1 = (i : Int) ∧ i ≤ d + 1 ∧ tsf s a.2 ∧ ∀ k, k < i → big a.2 (272 + 4 * k) (pgt m.reverse k), ⟨0, rfl, by omega, gfr_refl _ _ _, fun k hk => by omega⟩, ?_⟩
  rintro ⟨x, s1⟩ ⟨i, ei, id, f1, h1⟩
  dsimp only at ei f1 h1 ⊢
  subst ei
  have hd1 : cgf s1 267 4 = (d : Int) := by show s1.1 267 4 = _; rw [f1.1 _ _ (by omega)]; exact hd
  unfold C_changes5_15
  rw [hd1]
  refine ⟨fun c => ?_, fun c => ?_⟩
  · have i1 : i = d + 1 := by omega
    subst i1
    clear id c
    have T0 : pT m = fsw 1 d m.reverse := lst_ev (by rw [pT_len, fsw_len _ _ _ (by rw [List.length_reverse, hm]; omega), List.length_reverse]) (fun x => by rw [pT, pS_ev, fsw_ev 1 x d _ (by rw [List.length_reverse]; exact hm), rat_i1]; congr 1; grind)
    have rM : pab m.reverse M := fun k => rev_all (C := fun x => x.natAbs ≤ M) (by show (0 : Int).natAbs ≤ M; omega) hM k
    refine ⟨fun a => (a.2.1 = -1 ∨ a.2.1 = 0 ∨ a.2.1 = 1) ∧ 0 ≤ a.1 ∧ a.1 ≤ 2 ∧ tsf s a.2.2.2 ∧ ∃ i : Nat, a.2.2.1 = (i : Int) ∧ i ≤ d + 1 ∧ ((i = d + 1 ∧ ((pV m : Nat) : Int) = a.1) ∨ (i ≤ d ∧ ∃ q : List Int, q.length = d + 1 - i ∧ ((pV m : Nat) : Int) = a.1 + ((vr a.2.1 (fsw 1 (d - i) q) : Nat) : Int) ∧ pab q (M * ffl d i) ∧ ∀ k, k < q.length → big a.2.2.2 (272 + 4 * (i + k)) (pgt q k))), ⟨Or.inr (Or.inl rfl), Int.le_refl _, by dsimp only; decide, f1, 0, rfl, by omega, Or.inr ⟨by omega, m.reverse, by rw [List.length_reverse]; exact hm, ?_, by rw [show M * ffl d 0 = M from Nat.mul_one M]; exact rM, fun k hk => ?_⟩⟩, ?_⟩
    · dsimp only
      rw [Nat.sub_zero, ← T0]
      show ((pV m : Nat) : Int) = 0 + ((pV m : Nat) : Int)
      omega
    · dsimp only
      rw [List.length_reverse, hm] at hk
      rw [Nat.zero_add]
      exact h1 k hk
    rintro ⟨n, l, x, s2⟩ ⟨hl, n0, n2, f2, i, ei, id, hh⟩
    dsimp only at hl n0 n2 f2 ei hh ⊢
    subst ei
    have hd2 : cgf s2 267 4 = (d : Int) := by show s2.1 267 4 = _; rw [f2.1 _ _ (by omega)]; exact hd
    unfold C_changes5_55
    rw [hd2]
    refine ⟨fun c => ?_, fun c => ⟨fun c2 => ?_, fun c2 => ?_⟩⟩
    · rcases hh with ⟨_, e⟩ | ⟨i2, _⟩
      · exact hQ n s2 (fun h => by omega) (fun h => by omega) (fun h => by omega) f2
      · omega
    · rcases hh with ⟨i2, _⟩ | ⟨i2, q, _, e, _⟩
      · omega
      · exact hQ n s2 (fun h => by omega) (fun h => by omega) (fun h => by omega) f2
    · rcases hh with ⟨i2, _⟩ | ⟨i2, q, lq, e, bq, hq⟩
      · omega
      have bs := swp_bd (w := 1) rfl q bq
      rw [w32_id (x := (d : Int) - 1) (by omega) (by omega)]
      -- one sweep
      refine ⟨fun a => (i : Int) - 1 ≤ a.1 ∧ a.1 ≤ (d : Int) - 1 ∧ tsf s a.2 ∧ ∀ k, k < q.length → big a.2 (272 + 4 * (i + k)) (if (i : Int) + k ≤ a.1 then pgt q k else pgt (swp 1 q) k), ⟨by dsimp only; omega, by dsimp only; omega, f2, fun k hk => ?_⟩, ?_⟩
      · dsimp only
        split
        · exact hq k hk
        · have e2 : pgt (swp 1 q) k = pgt q k := by rw [swp_gt, pgt_hi (swp 1 q) _ (by rw [swp_len]; omega)]; omega
          rw [e2]; exact hq k hk
      rintro ⟨j9, s3⟩ ⟨j1, j2, f3, h3⟩
      dsimp only at j1 j2 f3 h3 ⊢
      refine ⟨fun cj v ev u eu => ?_, fun cj => ?_⟩
      · have ej : j9 = (i : Int) - 1 := by omega
        subst ej
        have mk : cgf s3 (272 + 4 * i) 2 = (pgt (swp 1 q) 0).sign := by
          have := big_mk (h3 0 (by omega))
          rw [if_neg (by omega)] at this
          exact this
        rw [Int.toNat_natCast, mk] at ev eu
        have sr := sign_r (pgt (swp 1 q) 0)
        have sm := @sg_mul l (pgt (swp 1 q) 0) hl
        have wr : w32 ((pgt (swp 1 q) 0).sign * l) = (pgt (swp 1 q) 0).sign * l := by
          have : -1 ≤ (pgt (swp 1 q) 0).sign * l ∧ (pgt (swp 1 q) 0).sign * l ≤ 1 := by
            rcases sr with q | q | q <;> rcases hl with r | r | r <;> rw [q, r] <;> exact ⟨by decide, by decide⟩
          exact w32_id (by omega) (by omega)
        rw [wr] at ev
        have ev2 : v = ((if l * pgt (swp 1 q) 0 < 0 then 1 else 0 : Nat) : Int) := by
          rw [ev]
          by_cases cc : l * pgt (swp 1 q) 0 < 0
          · rw [if_pos cc, if_neg (by have := sm.2 cc; omega)]; rfl
          · rw [if_neg cc, if_pos (by have := mt sm.1 cc; omega)]; rfl
        have vb : 0 ≤ v ∧ v ≤ 1 := by rw [ev2]; split <;> omega
        rw [w32_id (x := n + v) (by omega) (by omega), w32s (by omega)]
        -- the new last sign
        have su : ∀ r : List Int, vr u r = vr (if pgt (swp 1 q) 0 = 0 then l else pgt (swp 1 q) 0) r := fun r => by
          rw [eu]
          by_cases cc : pgt (swp 1 q) 0 = 0
          · rw [if_pos cc, if_pos (by rw [cc]; rfl)]
          · rw [if_neg cc, if_neg (by rw [Int.sign_eq_zero_iff_zero]; exact cc)]
            exact vr_same Int.sign_pos_iff Int.sign_neg_iff
        have ur : u = -1 ∨ u = 0 ∨ u = 1 := by
          rw [eu]
          split
          · exact hl
          · exact sr
        by_cases cd : i = d
        · subst cd
          obtain ⟨y, ey⟩ : ∃ y, q = [y] := by
            match q, lq with
            | [y], _ => exact ⟨y, rfl⟩
            | [], h => simp at h
            | _ :: _ :: _, h => rw [List.length_cons, List.length_cons] at h; omega
          subst ey
          refine ⟨ur, by dsimp only; omega, by dsimp only; omega, f3, i + 1, rfl, by omega, Or.inl ⟨rfl, ?_⟩⟩
          dsimp only
          rw [e, Nat.sub_self]
          have e3 : vr l (fsw 1 0 [y]) = (if l * y < 0 then 1 else 0) + 0 := rfl
          have e4 : pgt (swp 1 [y]) 0 = y := rfl
          rw [e3, ev2, e4]; omega
        · have ex : fsw 1 (d - i) q = pgt (swp 1 q) 0 :: fsw 1 (d - (i + 1)) (swp 1 q).tail := by
            rw [show d - i = (d - (i + 1)) + 1 by omega]; rfl
          refine ⟨ur, by dsimp only; omega, by dsimp only; omega, f3, i + 1, rfl, by omega, Or.inr ⟨by omega, (swp 1 q).tail, by rw [List.length_tail, swp_len]; omega, ?_, fun k => ?_, fun k hk => ?_⟩⟩
          · dsimp only
            rw [e, ex, vr_cons, su, ev2]
            omega
          · rw [pgt_tail]
            have b1 := bs (k + 1)
            show _ ≤ M * (ffl d i * (d + 1 - i))
            have : (q.length - (k + 1)) * (M * ffl d i) ≤ (d + 1 - i) * (M * ffl d i) := Nat.mul_le_mul_right _ (by omega)
            have e : M * (ffl d i * (d + 1 - i)) = (d + 1 - i) * (M * ffl d i) := by grind
            omega
          · rw [List.length_tail, swp_len] at hk
            have := h3 (k + 1) (by omega)
            rw [if_neg (by omega)] at this
            rw [pgt_tail, show i + 1 + k = i + (k + 1) by omega]
            exact this
      · obtain ⟨j, hj⟩ : ∃ j : Nat, j9 = (j : Int) := ⟨j9.toNat, by omega⟩
        subst hj
        rw [w32s (by omega), Int.toNat_natCast, Int.toNat_natCast]
        have a1 := h3 (j - i) (by omega)
        have a2 := h3 (j - i + 1) (by omega)
        rw [if_pos (by omega), show i + (j - i) = j by omega] at a1
        rw [if_neg (by omega), show i + (j - i + 1) = j + 1 by omega] at a2
        have b1 := bq (j - i)
        have b2 := bs (j - i + 1)
        have b4 := ffl_ok hB (show i < d by omega) (by omega) b1 b2
        have g := (gln_mv j (by omega)).2
        refine add_b a1 a2 (by omega) (by omega) (Or.inl rfl) (by rw [rm_tst (by omega)]; exact b4) (fun s4 b4 f4 => ⟨?_, ?_, tsf_b f3 (by omega) f4, fun k hk => ?_⟩)
        · dsimp only; rw [w32_id (by omega) (by omega)]; omega
        · dsimp only; rw [w32_id (by omega) (by omega)]; omega
        · dsimp only
          rw [w32_id (x := (j : Int) + -1) (by omega) (by omega)]
          by_cases ck : k = j - i
          · subst ck
            rw [if_neg (by omega), show i + (j - i) = j by omega, swp_gt]
            exact b4
          · have h5 := big_fr (h3 k hk) f4 (by omega)
            by_cases c3 : (i : Int) + k ≤ (j : Int)
            · rw [if_pos c3] at h5
              rw [if_pos (by omega)]; exact h5
            · rw [if_neg c3] at h5
              rw [if_neg (by omega)]; exact h5
  · have ew : w32 ((d : Int) - (i : Int)) = ((d - i : Nat) : Int) := by rw [w32_id (by omega) (by omega)]; omega
    rw [ew, Int.toNat_natCast, Int.toNat_natCast]
    have g := (gln_mv i (by omega)).2
    have b := hM (d - i)
    have hb : big s1 (270 + 4 * (d - i)) (pgt m (d - i)) := big_g (hs (d - i) (by omega)) f1 (by omega) (by omega) (by omega)
    refine copy_b hb (by omega) (by rw [rm_tst (by omega)]; omega) (by omega) (fun s2 b2 f2 => ⟨i + 1, w32s (by omega), by omega, tsf_b f1 (by omega) f2, fun k hk => ?_⟩)
    by_cases ck : k = i
    · subst ck
      rw [rev_gt m k (by omega), show m.length - 1 - k = d - k by omega]
      exact b2
    · exact big_fr (h1 k (by omega)) f2 (by omega)
