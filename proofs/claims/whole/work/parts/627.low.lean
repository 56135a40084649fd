/-! NUMBERS BELOW THE TOP: the same operations -/
def nm (s : im_S) (x X : Int) : Prop := num s x X ∧ x + lim X < wgf s 24
theorem nm_na {s : im_S} {x X : Int} (h : nm s x X) : na s x X := ⟨h.1, Or.inl h.2⟩
theorem st_nm {s s' : im_S} {x X : Int} (h : st s s') (hn : nm s x X) : nm s' x X := ⟨num_ag hn.1 h.1 (Or.inl hn.2), by have := h.2; have := hn.2; omega⟩
theorem again_ok {s : im_S} {x X : Int} {Q : Int → im_S → Prop} (h : nm s x X) (h0 : 0 ≤ wgf s 24) (hr : wgf s 24 + lim X + 1 ≤ 684000) (hQ : ∀ s', st s s' → nm s' (wgf s 24) X → wgf s' 24 = wgf s 24 + lim X + 1 → Q (wgf s 24) s') : W_again x s Q := again_ka (nm_na h) h0 hr (fun s' a n t => hQ s' a ⟨n.1, by omega⟩ t)
theorem less_ok {s : im_S} {x X : Int} {Q : Int → im_S → Prop} (h : nm s x X) (h0 : 0 ≤ wgf s 24) (hr : wgf s 24 + lim X + 1 ≤ 684000) (hQ : ∀ s', st s s' → nm s' (wgf s 24) (-X) → wgf s' 24 = wgf s 24 + lim X + 1 → Q (wgf s 24) s') : W_less x s Q := less_ka (nm_na h) h0 hr (fun s' a n t => hQ s' a ⟨n.1, by rw [lim_neg]; omega⟩ t)
theorem whole_ok {s : im_S} {v : Int} {Q : Int → im_S → Prop} (hv : -9223372036854775807 ≤ v ∧ v ≤ 9223372036854775807) (h0 : 0 ≤ wgf s 24) (hr : wgf s 24 + lim v + 1 ≤ 684000) (hQ : ∀ s', st s s' → nm s' (wgf s 24) v → wgf s' 24 = wgf s 24 + lim v + 1 → Q (wgf s 24) s') : W_whole v s Q := whole_ka hv h0 hr (fun s' a n t => hQ s' a ⟨n.1, by omega⟩ t)
theorem plus_ok {s : im_S} {x y X Y : Int} {Q : Int → im_S → Prop} (hx : nm s x X) (hy : nm s y Y) (h0 : 0 ≤ wgf s 24) (hr : wgf s 24 + (max (lim X) (lim Y) : Nat) + 2 ≤ 684000) (hQ : ∀ s', st s s' → nm s' (wgf s 24) (X + Y) → wgf s' 24 = wgf s 24 + lim (X + Y) + 1 → Q (wgf s 24) s') : W_plus x y s Q := plus_ka (nm_na hx) (nm_na hy) h0 hr (fun s' a n t => hQ s' a ⟨n.1, by omega⟩ t)
theorem minus_ok {s : im_S} {x y X Y : Int} {Q : Int → im_S → Prop} (hx : nm s x X) (hy : nm s y Y) (h0 : 0 ≤ wgf s 24) (hr : wgf s 24 + lim Y + (max (lim X) (lim Y) : Nat) + 3 ≤ 684000) (hQ : ∀ s', st s s' → nm s' (wgf s 24) (X - Y) → wgf s' 24 = wgf s 24 + lim (X - Y) + 1 → Q (wgf s 24) s') : W_minus x y s Q := minus_ka (nm_na hx) (nm_na hy) h0 hr (fun s' a n t => hQ s' a ⟨n.1, by omega⟩ t)
theorem by_ok {s : im_S} {x y X Y : Int} {Q : Int → im_S → Prop} (hx : nm s x X) (hy : nm s y Y) (h0 : 0 ≤ wgf s 24) (hr : wgf s 24 + lim X + lim Y + 1 ≤ 684000) (hQ : ∀ s', st s s' → nm s' (wgf s 24) (X * Y) → wgf s' 24 = wgf s 24 + lim (X * Y) + 1 → Q (wgf s 24) s') : W_by x y s Q := by_ka (nm_na hx) (nm_na hy) h0 hr (fun s' a n t => hQ s' a ⟨n.1, by omega⟩ t)
theorem over_ok {s : im_S} {x y X Y : Int} {Q : Int → im_S → Prop} (hx : nm s x X) (hy : nm s y Y) (hY : 0 < Y) (h0 : 0 ≤ wgf s 24) (hr : wgf s 24 + 3 * lim X + 20 ≤ 684000) (hQ : ∀ s', st s s' → nm s' (wgf s 24) (X / Y) → wgf s' 24 = wgf s 24 + lim (X / Y) + 1 → Q (wgf s 24) s') : W_over x y s Q := over_ka (nm_na hx) (nm_na hy) hY h0 hr (fun s' a n t => hQ s' a ⟨n.1, by omega⟩ t)
theorem gcd_ok {s : im_S} {x y X Y : Int} {M : Nat} {Q : Int → im_S → Prop} (hx : nm s x X) (hy : nm s y Y) (hMx : lim X ≤ M) (hMy : lim Y ≤ M) (h0 : 0 ≤ wgf s 24) (hr : wgf s 24 + 6 * M + 12 ≤ 684000) (hQ : ∀ s', st s s' → nm s' (wgf s 24) (Int.gcd X Y : Int) → wgf s' 24 = wgf s 24 + lim (Int.gcd X Y : Int) + 1 → lim (Int.gcd X Y : Int) ≤ M → Q (wgf s 24) s') : W_gcd x y s Q := gcd_ka (nm_na hx) (nm_na hy) hMx hMy h0 hr (fun s' a n t l => hQ s' a ⟨n.1, by omega⟩ t l)
theorem powerOfTwo_ok {s : im_S} {E : Nat} {Q : Int → im_S → Prop} (h0 : 0 ≤ wgf s 24) (hE : E ≤ 100000) (hr : wgf s 24 + (E + 40) * (lim (2 ^ E) + 3) ≤ 684000) (hQ : ∀ s', st s s' → nm s' (wgf s 24) (2 ^ E) → wgf s' 24 = wgf s 24 + lim (2 ^ E) + 1 → Q (wgf s 24) s') : W_powerOfTwo E s Q := powerOfTwo_ka h0 hE hr (fun s' a n t => hQ s' a ⟨n.1, by omega⟩ t)
theorem reserve_ok {s : im_S} {x X : Int} {Q : Int → im_S → Prop} (hx : nm s x X) (h52 : 0 ≤ wgf s 52 ∧ wgf s 52 < 80) (ht : wgf s 24 ≤ 684000) (hx2 : x + lim X < 684000) (hl : lim X < 200) (hQ : ∀ s', ag (700000 - 200 * (wgf s 52 + 1)) (700000 - 200 * wgf s 52) (wpf s 52 (wgf s 52 + 1)) s' → num s' (700000 - 200 * (wgf s 52 + 1)) X → wgf s' 24 = wgf s 24 → Q (700000 - 200 * (wgf s 52 + 1)) s') : W_reserve x s Q := reserve_ka (nm_na hx) h52 ht hx2 hl hQ
theorem plus1_ok {s : im_S} {x y X Y : Int} {Q : Int → im_S → Prop} (hx : nm s x X) (hy : nm s y Y) (h0 : 0 ≤ wgf s 24) (hr : wgf s 24 + lim X + (max (lim X) (lim Y) : Nat) + 3 ≤ 684000) (hQ : ∀ (z : Int) (s' : im_S), st s s' → nm s' z (X.natAbs + Y) → wgf s 24 ≤ z → wgf s' 24 = wgf s 24 + lim X + 1 + lim ((X.natAbs : Int) + Y) + 1 → Q z s') : W_plus1 x y s Q := by
  unfold W_plus1
  have lx : lim (X.natAbs : Int) = lim X := lim_abs (by omega)
  refine again_ok hx h0 (by omega) (fun s1 a1 n1 t1 => limbs_ok n1.1 ⟨⟨h0, by omega⟩, fun s2 e2 => ?_⟩)
  have t2 : wgf s2 24 = wgf s1 24 := by rw [e2]; rfl
  have n2 : nm s2 (wgf s 24) (X.natAbs : Int) := by
    refine ⟨?_, by rw [lx]; omega⟩
    rw [e2]
    refine num_sw n1.1 (by omega) ?_
    rw [if_neg (by omega), lx]
  have a2 : st s s2 := by rw [e2]; exact st_pa a1 h0 (Int.le_refl _) (by omega)
  exact plus_ok n2 (st_nm a2 hy) (by omega) (by rw [lx]; omega) (fun s3 a3 n3 t3 => hQ _ s3 (st_tr a2 a3) n3 (by omega) (by omega))
