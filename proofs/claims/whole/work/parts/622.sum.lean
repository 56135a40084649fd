/-! THE REFERENCE'S LONG NUMBERS: joined, plus, minus -/
def dm (s : im_S) (x n : Int) : Nat → Int
  | 0 => 0
  | k + 1 => dm s x n k + (if (k : Int) + 1 ≤ n then wga s 597 (x + ((k : Int) + 1)) else 0) * 1000000000 ^ k
theorem dm_le {s : im_S} {x n : Int} : ∀ {k : Nat}, (k : Int) ≤ n → dm s x n k = dv s x k
  | 0, _ => rfl
  | k + 1, h => by
    show dm s x n k + (if (k : Int) + 1 ≤ n then wga s 597 (x + ((k : Int) + 1)) else 0) * 1000000000 ^ k = dv s x k + wga s 597 (x + ((k : Int) + 1)) * 1000000000 ^ k
    rw [dm_le (k := k) (by omega), if_pos (by omega)]
theorem dm_ge {s : im_S} {x : Int} {n : Nat} : ∀ {j : Nat}, dm s x n (n + j) = dv s x n
  | 0 => dm_le (Int.le_refl _)
  | j + 1 => by
    show dm s x n (n + j) + (if ((n + j : Nat) : Int) + 1 ≤ n then wga s 597 (x + (((n + j : Nat) : Int) + 1)) else 0) * 1000000000 ^ (n + j) = dv s x n
    rw [dm_ge (j := j), if_neg (by omega)]
    omega
theorem ar_jn (D D' c c2 p q e P A B : Int) (h : D + c * P = A + e * B) (hD : D' = D + (c + p + e * q - c2 * 1000000000) * P) : D' + c2 * (P * 1000000000) = A + p * P + e * (B + q * P) := by
  grind
theorem pw_p (k : Nat) : (1 : Int) ≤ 1000000000 ^ k := by
  have : (0 : Int) < 1000000000 ^ k := Int.pow_pos (by decide)
  omega
theorem nat_lt_pw {X : Int} {n : Nat} (h : lim X ≤ n) : (X.natAbs : Int) < 1000000000 ^ n := by
  have a := lim_lt X
  have b : (1000000000 : Nat) ^ lim X ≤ 1000000000 ^ n := Nat.pow_le_pow_right (by decide) h
  have c : ((X.natAbs : Nat) : Int) < ((1000000000 ^ n : Nat) : Int) := Int.ofNat_lt.2 (by omega)
  rw [Int.natCast_pow] at c
  exact c
theorem joined_ka {s : im_S} {x y X Y l3 l4 R : Int} {Q : Int → im_S → Prop} (hx : na s x X) (hy : na s y Y) (h3 : l3 = 0 ∨ l3 = 1) (h0 : 0 ≤ wgf s 24) (hr : wgf s 24 + (max (lim X) (lim Y) : Nat) + 2 ≤ 684000) (hV : l3 = 0 → Y.natAbs ≤ X.natAbs) (hR : ∀ V : Int, V = X.natAbs + (if l3 = 0 then (-1 : Int) else 1) * Y.natAbs → R = if l4 = 0 then V else -V) (hQ : ∀ s', st s s' → na s' (wgf s 24) R → wgf s' 24 = wgf s 24 + lim R + 1 → Q (wgf s 24) s') : W_joined x y l3 l4 s Q := by
  unfold W_joined
  refine limbs_ok hx.1 (limbs_ok hy.1 (fun most hm => ?_))
  obtain ⟨mm, hmm⟩ : ∃ mm : Nat, mm = max (lim X) (lim Y) := ⟨_, rfl⟩
  have em : most = mm := by rw [hm, hmm]; split <;> omega
  rw [← hmm] at hr
  subst em
  have hx0 := hx.1.1
  have hy0 := hy.1.1
  have hx1 := hx.1.2.1
  have hy1 := hy.1.2.1
  have hx2 := hx.2
  have hy2 := hy.2
  obtain ⟨e, he⟩ : ∃ e : Int, e = if l3 = 0 then (-1 : Int) else 1 := ⟨_, rfl⟩
  rw [← he] at hR
  refine ⟨fun a => ∃ j : Nat, a.2.2.1 = (j : Int) + 1 ∧ j ≤ mm + 1 ∧ ag (wgf s 24) 684000 s a.2.2.2 ∧ dg a.2.2.2 (wgf s 24) j ∧ (a.1 = 0 ∨ (l3 = 1 ∧ a.1 = 1) ∨ (l3 = 0 ∧ a.1 = -1)) ∧ dv a.2.2.2 (wgf s 24) j + a.1 * 1000000000 ^ j = dm s x (lim X) j + e * dm s y (lim Y) j ∧ ∃ u : Nat, a.2.1 = u ∧ u ≤ j ∧ (u = 0 ∨ wga a.2.2.2 597 (wgf s 24 + u) ≠ 0) ∧ ∀ i : Int, (u : Int) < i → i ≤ j → wga a.2.2.2 597 (wgf s 24 + i) = 0, fun a => (mm + 2 - a.2.2.1).toNat, ?_, ?_⟩
  · refine ⟨0, rfl, by omega, ag_rfl, fun k a b => by omega, Or.inl rfl, ?_, 0, rfl, by omega, Or.inl rfl, fun i a b => by omega⟩
    show (0 : Int) + 0 * _ = 0 + e * 0
    omega
  · rintro ⟨carry, used, k, s1⟩ ⟨j, i1, i2, i3, i4, i5, i6, u, i7, i8, i9, i10⟩
    dsimp only at i1 i2 i3 i4 i5 i6 i7 i8 i9 i10 ⊢
    subst i1 i7
    unfold W_joined_45
    refine ⟨⟨by omega, by omega⟩, fun c => ⟨fun _ => ⟨by omega, by omega⟩, fun v hv => ⟨⟨h0, by omega⟩, fun s2 e2 => ⟨⟨by omega, by omega⟩, ⟨by omega, by omega⟩, fun s3 e3 => ?_⟩⟩⟩, fun c => ?_⟩
    · have ej : j = mm + 1 := by omega
      have b1 := dv_b i4
      have ex : dm s x (lim X) j = X.natAbs := by
        have q := dm_ge (s := s) (x := x) (n := lim X) (j := j - lim X)
        rw [show lim X + (j - lim X) = j by omega] at q
        rw [q]; exact hx.1.2.2.2.2
      have ey : dm s y (lim Y) j = Y.natAbs := by
        have q := dm_ge (s := s) (x := y) (n := lim Y) (j := j - lim Y)
        rw [show lim Y + (j - lim Y) = j by omega] at q
        rw [q]; exact hy.1.2.2.2.2
      rw [ex, ey] at i6
      have px : (X.natAbs : Int) < 1000000000 ^ mm := nat_lt_pw (by omega)
      have py : (Y.natAbs : Int) < 1000000000 ^ mm := nat_lt_pw (by omega)
      have pp : (1000000000 : Int) ^ j = 1000000000 ^ mm * 1000000000 := by rw [ej]; exact Int.pow_succ _ _
      have ed : dv s1 (wgf s 24) j = X.natAbs + e * Y.natAbs := by
        rcases h3 with q | q
        · rw [if_pos q] at he
          have := hV q
          subst he
          rcases i5 with c1 | c1 | c1
          · subst c1; omega
          · omega
          · rw [c1.2] at i6; omega
        · rw [if_neg (by omega)] at he
          subst he
          rcases i5 with c1 | c1 | c1
          · subst c1; omega
          · rw [c1.2] at i6; omega
          · omega
      have eu : dv s1 (wgf s 24) u = X.natAbs + e * Y.natAbs := by
        rw [← ed]
        have q := dv_z (s := s1) (x := wgf s 24) (n := u) (j := j - u) (fun k a b => i10 k a (by omega))
        rw [show u + (j - u) = j by omega] at q
        exact q.symm
      have ev : dv s2 (wgf s 24) u = X.natAbs + e * Y.natAbs := by
        rw [e2, dv_co (s := s1) (x := wgf s 24) (fun k a b => wg_ne (by omega) (by omega) (by omega))]
        exact eu
      have rr := hR _ rfl
      have nn : num s2 (wgf s 24) R := by
        refine num_mk (n := u) h0 (by omega) ?_ ?_ (¬ l4 = 0) ?_ ⟨fun c => ?_, fun c => ?_⟩
        · intro k a b
          rw [e2, wg_ne (by omega) (by omega) (by omega)]
          exact i4 k a (by omega)
        · rcases i9 with q | q
          · exact Or.inl q
          · by_cases q2 : u = 0
            · exact Or.inl q2
            · right
              rw [e2, wg_ne (by omega) (by omega) (by omega)]
              exact q
        · rw [e2, wg_same, hv]
          by_cases c : l4 = 0
          · exact Or.inr ⟨fun q => q c, by rw [if_pos c]⟩
          · exact Or.inl ⟨c, by rw [if_neg c]⟩
        · rw [rr, if_neg c, ev]
        · rw [rr, if_pos (Classical.not_not.1 c), ev]
      have el : lim R = u := by
        have z1 := nn.2.2.1
        rw [e2, wg_same, hv] at z1
        split at z1 <;> split at z1 <;> omega
      have tt : wgf s3 24 = wgf s 24 + u + 1 := by rw [e3]; exact wf_same
      have n3 : num s3 (wgf s 24) R := by rw [e3]; exact num_co nn nn.1 nn.2.1 (fun _ _ _ => rfl)
      refine hQ s3 ⟨?_, by omega⟩ ⟨n3, Or.inl (by omega)⟩ (by omega)
      rw [e3, e2]
      exact ag_pf (ag_pa i3 h0 (Int.le_refl _) (by omega)) (Or.inl rfl)
    · refine ⟨fun _ => ⟨by omega, by omega⟩, fun p hp => ?_⟩
      have fx : ∀ i : Int, 1 ≤ i → i ≤ lim X → wga s1 597 (x + i) = wga s 597 (x + i) := fun i a b => ag_m i3 (by omega) (by omega)
      have fy : ∀ i : Int, 1 ≤ i → i ≤ lim Y → wga s1 597 (y + i) = wga s 597 (y + i) := fun i a b => ag_m i3 (by omega) (by omega)
      have ep : p = if (j : Int) + 1 ≤ lim X then wga s 597 (x + ((j : Int) + 1)) else 0 := by
        rw [hp]
        by_cases q : (j : Int) + 1 ≤ lim X
        · rw [if_pos q, if_neg (by omega), fx _ (by omega) q]
        · rw [if_neg q, if_pos (by omega)]
      have bp : 0 ≤ p ∧ p < 1000000000 := by
        rw [ep]
        split
        · exact hx.1.2.2.2.1 _ (by omega) (by assumption)
        · omega
      obtain ⟨q, hq⟩ : ∃ q : Int, q = if (j : Int) + 1 ≤ lim Y then wga s 597 (y + ((j : Int) + 1)) else 0 := ⟨_, rfl⟩
      have bq : 0 ≤ q ∧ q < 1000000000 := by
        rw [hq]
        split
        · exact hy.1.2.2.2.1 _ (by omega) (by assumption)
        · omega
      have bc : -1 ≤ carry ∧ carry ≤ 1 := by omega
      have hw1 : (j : Int) + 1 ≤ lim Y → wga s1 597 (y + ((j : Int) + 1)) = q := fun a => by rw [hq, if_pos a]; exact fy _ (by omega) a
      refine ⟨⟨by omega, by omega⟩, fun a _ => ⟨by omega, by omega⟩, fun a _ => by rw [hw1 a]; exact ⟨by omega, by omega⟩, fun a _ => ⟨by omega, by omega⟩, fun w hw => ?_⟩
      have ew : w = e * q := by
        rw [hw, he]
        by_cases a : (j : Int) + 1 ≤ lim Y
        · rw [if_pos a, hw1 a]
          by_cases b : l3 = 0
          · rw [if_pos b, if_pos b]; omega
          · rw [if_neg b, if_neg b]; omega
        · rw [if_neg a, hq, if_neg a]; omega
      have bw : (l3 = 0 → w = -q) ∧ (l3 = 1 → w = q) := by
        rw [ew, he]
        refine ⟨fun a => ?_, fun a => ?_⟩
        · rw [if_pos a]; omega
        · rw [if_neg (by omega)]; omega
      refine ⟨⟨by omega, by omega⟩, fun c2 hc2 => ?_⟩
      have bc2 : 0 ≤ carry + p + w - c2 * 1000000000 ∧ carry + p + w - c2 * 1000000000 < 1000000000 ∧ (c2 = 0 ∨ (l3 = 1 ∧ c2 = 1) ∨ (l3 = 0 ∧ c2 = -1)) := by
        rw [hc2]
        split
        · split
          · omega
          · omega
        · omega
      refine ⟨⟨by omega, by omega⟩, ⟨by omega, by omega⟩, ⟨by omega, by omega⟩, ⟨by omega, by omega⟩, fun s2 e2 => ⟨⟨by omega, by omega⟩, fun u2 hu2 => ⟨⟨by omega, by omega⟩, ⟨j + 1, by dsimp only; omega, by omega, ?_, ?_, bc2.2.2, ?_, ?_⟩, by dsimp only; omega⟩⟩⟩
      · rw [e2]; exact ag_pa i3 (by omega) (by omega) (by omega)
      · intro k a b
        rw [e2]
        by_cases ek : k = (j : Int) + 1
        · rw [ek, wg_same]; omega
        · rw [wg_ne (by omega) (by omega) (by omega)]; exact i4 k a (by omega)
      · have z1 : dv s2 (wgf s 24) (j + 1) = dv s1 (wgf s 24) j + (carry + p + e * q - c2 * 1000000000) * 1000000000 ^ j := by
          show dv s2 _ j + wga s2 597 (wgf s 24 + ((j : Int) + 1)) * 1000000000 ^ j = _
          rw [e2, wg_same, ew, dv_co (s := s1) (x := wgf s 24) (fun k a b => wg_ne (by omega) (by omega) (by omega))]
        have z2 := ar_jn _ _ _ c2 p q e _ _ _ i6 z1
        rw [Int.pow_succ]
        show _ = (dm s x (lim X) j + (if (j : Int) + 1 ≤ lim X then wga s 597 (x + ((j : Int) + 1)) else 0) * 1000000000 ^ j) + e * (dm s y (lim Y) j + (if (j : Int) + 1 ≤ lim Y then wga s 597 (y + ((j : Int) + 1)) else 0) * 1000000000 ^ j)
        rw [← ep, ← hq]
        exact z2
      · have ew2 : wga s2 597 (wgf s 24 + ((j : Int) + 1)) = carry + p + w - c2 * 1000000000 := by rw [e2, wg_same]
        have eo : ∀ i : Int, 1 ≤ i → i ≤ j → wga s2 597 (wgf s 24 + i) = wga s1 597 (wgf s 24 + i) := fun i a b => by rw [e2]; exact wg_ne (by omega) (by omega) (by omega)
        by_cases d : wga s2 597 (wgf s 24 + ((j : Int) + 1)) = 0
        · rw [if_pos d] at hu2
          refine ⟨u, hu2, by omega, ?_, fun i a b => ?_⟩
          · by_cases q2 : u = 0
            · exact Or.inl q2
            · right
              rw [eo u (by omega) (by omega)]
              omega
          · by_cases ei : i = (j : Int) + 1
            · rw [ei]; exact d
            · rw [eo i (by omega) (by omega)]
              exact i10 i a (by omega)
        · rw [if_neg d] at hu2
          refine ⟨j + 1, by dsimp only; omega, by omega, Or.inr ?_, fun i a b => by omega⟩
          rw [show ((j + 1 : Nat) : Int) = (j : Int) + 1 by omega]
          exact d
theorem sg_0 {X : Int} : sg X = 0 ↔ X = 0 := by
  unfold sg
  constructor
  · intro h
    split at h
    · omega
    · split at h <;> omega
  · intro h; subst h; rfl
theorem sg_p {X : Int} : sg X = 1 ↔ 0 < X := by
  unfold sg
  constructor
  · intro h
    split at h
    · omega
    · split at h <;> omega
  · intro h
    rw [if_neg (by omega), if_neg (by omega)]
theorem sg_n {X : Int} : sg X = -1 ↔ X < 0 := by
  unfold sg
  constructor
  · intro h
    split at h
    · omega
    · split at h <;> omega
  · intro h
    rw [if_pos (by omega)]
theorem sg_c (X : Int) : (X = 0 ∧ sg X = 0) ∨ (0 < X ∧ sg X = 1) ∨ (X < 0 ∧ sg X = -1) := by
  rcases Int.lt_trichotomy X 0 with h | h | h
  · exact Or.inr (Or.inr ⟨h, sg_n.2 h⟩)
  · exact Or.inl ⟨h, sg_0.2 h⟩
  · exact Or.inr (Or.inl ⟨h, sg_p.2 h⟩)
theorem plus_ka {s : im_S} {x y X Y : Int} {Q : Int → im_S → Prop} (hx : na s x X) (hy : na s y Y) (h0 : 0 ≤ wgf s 24) (hr : wgf s 24 + (max (lim X) (lim Y) : Nat) + 2 ≤ 684000) (hQ : ∀ s', st s s' → na s' (wgf s 24) (X + Y) → wgf s' 24 = wgf s 24 + lim (X + Y) + 1 → Q (wgf s 24) s') : W_plus x y s Q := by
  unfold W_plus
  refine sgn_ok hx.1 (sgn_ok hy.1 ⟨fun e => ?_, fun e => ⟨fun e2 => ⟨fun e3 => ?_, fun e3 v hv => ?_⟩, fun e2 => ?_⟩⟩)
  · unfold W_plus_22
    intro v hv
    rw [if_neg (fun q => q e)] at hv
    rw [hv]
    have ex := sg_0.1 e
    subst ex
    rw [Int.zero_add] at hQ
    exact again_ka hy h0 (by omega) hQ
  · refine weigh_ok hx.1 hy.1 ⟨fun c v hv => ?_, fun c v hv => ?_⟩
    · have c2 : (X.natAbs : Int) < Y.natAbs := by
        have := sg_c ((X.natAbs : Int) - Y.natAbs); omega
      refine joined_ka (R := X + Y) hy hx (Or.inl rfl) h0 (by rw [Nat.max_comm]; exact hr) (fun _ => by omega) (fun V hV => ?_) (fun s' a b c => hQ s' a b c)
      rw [if_pos rfl] at hV
      rw [hv]
      have sx := sg_c X
      have sy := sg_c Y
      by_cases q : 0 ≤ sg Y
      · rw [if_pos q, if_pos rfl]; omega
      · rw [if_neg q, if_neg (by decide)]; omega
    · have c2 : (Y.natAbs : Int) ≤ X.natAbs := by
        have := sg_c ((X.natAbs : Int) - Y.natAbs); omega
      refine joined_ka (R := X + Y) hx hy (Or.inl rfl) h0 hr (fun _ => by omega) (fun V hV => ?_) (fun s' a b c => hQ s' a b c)
      rw [if_pos rfl] at hV
      rw [hv]
      have sx := sg_c X
      have sy := sg_c Y
      by_cases q : 0 ≤ sg X
      · rw [if_pos q, if_pos rfl]; omega
      · rw [if_neg q, if_neg (by decide)]; omega
  · refine joined_ka (R := X + Y) hx hy (Or.inr rfl) h0 hr (fun q => by omega) (fun V hV => ?_) (fun s' a b c => hQ s' a b c)
    rw [if_neg (by decide)] at hV
    rw [hv]
    have sx := sg_c X
    have sy := sg_c Y
    by_cases q : 0 ≤ sg X
    · rw [if_pos q, if_pos rfl]; omega
    · rw [if_neg q, if_neg (by decide)]; omega
  · unfold W_plus_22
    intro v hv
    rw [if_pos e] at hv
    rw [hv]
    have ex := sg_0.1 e2
    subst ex
    rw [Int.add_zero] at hQ
    exact again_ka hx h0 (by omega) hQ
theorem minus_ka {s : im_S} {x y X Y : Int} {Q : Int → im_S → Prop} (hx : na s x X) (hy : na s y Y) (h0 : 0 ≤ wgf s 24) (hr : wgf s 24 + lim Y + (max (lim X) (lim Y) : Nat) + 3 ≤ 684000) (hQ : ∀ s', st s s' → na s' (wgf s 24) (X - Y) → wgf s' 24 = wgf s 24 + lim (X - Y) + 1 → Q (wgf s 24) s') : W_minus x y s Q := by
  unfold W_minus
  refine less_ka hy h0 (by omega) (fun s1 a1 n1 t1 => ?_)
  have e : lim (-Y) = lim Y := lim_neg Y
  refine plus_ka (st_na a1 hx) n1 (by omega) (by rw [e]; omega) (fun s2 a2 n2 t2 => ?_)
  have lm := lim_add X (-Y)
  rw [e] at lm
  rw [← Int.sub_eq_add_neg] at n2 t2 lm
  exact keep_ka (st_tr a1 a2) n2.1 rfl h0 (by omega) (by omega) (fun s3 a3 n3 t3 => hQ s3 a3 n3 t3)
