/-! findRoots: the halving -/
/-- memory from lo on, the rooms and entries of roots from R on, the pile -/
def fwr (lo R : Int) (s s' : im_S) : Prop := (∀ c f : Nat, ¬ (c = 582 ∧ (f = 24 ∨ f = 25 ∨ f = 41 ∨ f = 52)) → s'.1 c f = s.1 c f) ∧ (∀ c i : Nat, ¬ (c = 597 ∧ lo ≤ (i : Int) ∧ (i : Int) < 700000 - 200 * R) → ¬ ((c = 607 ∨ c = 608 ∨ c = 609 ∨ c = 611 ∨ c = 612) ∧ R ≤ (i : Int)) → c ≠ 615 → c ≠ 616 → s'.2 c i = s.2 c i)
theorem fwr_rfl {lo R : Int} {s : im_S} : fwr lo R s s := ⟨fun _ _ _ => rfl, fun _ _ _ _ _ _ => rfl⟩
theorem fwr_tr {lo R : Int} {s s1 s2 : im_S} (h1 : fwr lo R s s1) (h2 : fwr lo R s1 s2) : fwr lo R s s2 := ⟨fun c f h => (h2.1 c f h).trans (h1.1 c f h), fun c i q1 q2 q3 q4 => (h2.2 c i q1 q2 q3 q4).trans (h1.2 c i q1 q2 q3 q4)⟩
theorem st_fwr {lo R : Int} {s s' : im_S} (h : st s s') (hl : lo ≤ wgf s 24) (hR : R ≤ 80) : fwr lo R s s' := ⟨fun c f q => h.1.1 c f (fun z => q ⟨z.1, by omega⟩), fun c i q1 _ _ _ => h.1.2 c i (fun z => q1 ⟨z.1, by omega, by omega⟩)⟩
theorem ar_fwr {lo R R' lo' : Int} {s s' : im_S} (h : ar lo' R' s s') (hR : R ≤ R') (hR2 : R' ≤ 79) (hl : lo ≤ lo') (hl2 : lo' ≤ 684000) : fwr lo R s s' := ⟨h.1, fun c i q1 q2 _ _ => h.2 c i (fun z => q1 ⟨z.1, by omega, by omega⟩) (fun z => q1 ⟨z.1, by omega, by omega⟩) (fun z => q2 ⟨z.1, by omega⟩)⟩
theorem fwr_pa {lo R x i : Int} {c : Nat} {s s' : im_S} (h : fwr lo R s s') (hc : c = 615 ∨ c = 616) : fwr lo R s (wpa s' c i x) := ⟨h.1, fun d j q1 q2 q3 q4 => by
  have e : (wpa s' c i x).2 d j = s'.2 d j := im_up_ne (fun z => by rcases hc with q | q; exact q3 (z.1.trans q); exact q4 (z.1.trans q))
  rw [e]
  exact h.2 d j q1 q2 q3 q4⟩
theorem fwr_r {lo R i : Int} {c : Nat} {s s' : im_S} (h : fwr lo R s s') (h1 : c ≠ 597) (h2 : ¬ (c = 607 ∨ c = 608 ∨ c = 609 ∨ c = 611 ∨ c = 612)) (h3 : c ≠ 615) (h4 : c ≠ 616) : wga s' c i = wga s c i := h.2 c i.toNat (fun z => h1 z.1) (fun z => h2 z.1) h3 h4
theorem fwr_f {lo R : Int} {s s' : im_S} {f : Nat} (h : fwr lo R s s') (h1 : f ≠ 24) (h2 : f ≠ 25) (h3 : f ≠ 41) (h4 : f ≠ 52) : wgf s' f = wgf s f := h.1 582 f (fun e => by rcases e.2 with q | q | q | q <;> contradiction)
theorem fwr_num {lo R x X : Int} {s s' : im_S} (h : fwr lo R s s') (hn : num s x X) (hx : x + lim X < lo ∨ 700000 - 200 * R ≤ x) : num s' x X := by
  have a := hn.1
  exact num_co hn hn.1 hn.2.1 (fun k q1 q2 => h.2 597 (x + k).toNat (by omega) (by omega) (by decide) (by decide))
theorem fwr_pol {lo R f : Int} {P : List Int} {s s' : im_S} (h : fwr lo R s s') (hl : wgf s 24 ≤ lo) (hl2 : lo ≤ wgf s' 24) (hlo : lo ≤ 684000) (hp : pol s f P) (hb : ∀ k : Nat, k < P.length → wga s 599 (9 * f + k) + lim (pgt P k) < wgf s 24) : pol s' f P := by
  obtain ⟨f1, f2, f3, f4, f5, f6⟩ := hp
  have e28 := fwr_f (f := 28) h (by decide) (by decide) (by decide) (by decide)
  refine ⟨f1, by omega, by omega, f4, by rw [fwr_r h (by decide) (by decide) (by decide) (by decide)]; exact f5, fun k hk => ?_⟩
  rw [fwr_r h (by decide) (by decide) (by decide) (by decide)]
  have z := f6 k hk
  have b := hb k hk
  exact ⟨fwr_num h z.1 (Or.inl (by omega)), by omega⟩
/-- what an interval may cost -/
def mbu (e v : Int) : Int := 31 + 6000 * v + v / 2 * ((621 - e) * 124)
theorem mbu_split {e v v1 v2 : Int} (he : e ≤ 619) (hv : v = v1 + v2) (h1 : 0 ≤ v1) (h2 : 0 ≤ v2) (h : 2 ≤ v) : mbu (e + 1) v1 + mbu (e + 1) v2 + 93 ≤ mbu e v := by
  unfold mbu
  have a : v1 / 2 + v2 / 2 ≤ v / 2 := by omega
  have b : 1 ≤ v / 2 := by omega
  generalize v / 2 = q at a b ⊢
  generalize v1 / 2 = q1 at a ⊢
  generalize v2 / 2 = q2 at a ⊢
  have m1 : (q1 + q2) * ((620 - e) * 124) ≤ q * ((620 - e) * 124) := Int.mul_le_mul_of_nonneg_right a (by omega)
  have m2 : q * ((621 - e) * 124) = q * ((620 - e) * 124) + q * 124 := by rw [← Int.mul_add]; congr 1; omega
  have m3 : (q1 + q2) * ((620 - e) * 124) = q1 * ((620 - e) * 124) + q2 * ((620 - e) * 124) := Int.add_mul _ _ _
  have m4 : 621 - (e + 1) = 620 - e := by omega
  rw [m4]
  omega
theorem mbu_nn {e v : Int} (he : e ≤ 621) (hv : 0 ≤ v) : 31 + 6000 * v ≤ mbu e v := by
  unfold mbu
  have : 0 ≤ v / 2 * ((621 - e) * 124) := Int.mul_nonneg (by omega) (by omega)
  omega
theorem sm_co2 {n : Nat} {f g : Nat → Int} (h : ∀ k, k < n → f k = g k) : sm n f = sm n g := sm_co h
/-- one interval in the pile -/
def pen (s : im_S) (M : Int) (i : Nat) (h e : Int) : Prop := nm s (wga s 615 i) h ∧ wga s 615 i + lim h < wgf s 24 ∧ wga s 616 i = e ∧ hbd h e ∧ hbd (h + 1) e ∧ -M ≤ e ∧ e ≤ 620 ∧ (i : Int) ≤ e + M + 1
theorem pen_st {s s' : im_S} {M h e : Int} {i : Nat} (a : st s s') (p : pen s M i h e) : pen s' M i h e := by
  obtain ⟨p1, p2, p3, p4⟩ := p
  have := a.2
  refine ⟨by rw [st_row a (by decide)]; exact st_nm a p1, by rw [st_row a (by decide)]; omega, by rw [st_row a (by decide)]; exact p3, p4⟩
theorem pen_ar {s s' : im_S} {M h e R : Int} {i : Nat} (a : ar (wgf s 24) R s s') (hR : 0 ≤ R ∧ R ≤ 79) (ht : wgf s 24 ≤ wgf s' 24) (ht2 : wgf s 24 ≤ 684000) (p : pen s M i h e) : pen s' M i h e := by
  obtain ⟨p1, p2, p3, p4⟩ := p
  have e1 : wga s' 615 i = wga s 615 i := ar_r a (by decide) (by decide)
  refine ⟨⟨by rw [e1]; exact ar_num a p1.1 (Or.inl p2) hR.2 ht2 hR.1, by rw [e1]; omega⟩, by rw [e1]; omega, by rw [ar_r a (by decide) (by decide)]; exact p3, p4⟩
/-- the roots found so far -/
theorem rt1_st {c : Nat → List Int} {N : Nat} {s s' : im_S} {R b : Int} {P : List Int} {l0 r0 : Rat} (a : st s s') (hR : R ≤ 79) (h : rt1 c N s R b P l0 r0) : rt1 c N s' R b P l0 r0 := by
  obtain ⟨h1, h2, hh, e, h3, h4, h5⟩ := h
  refine ⟨by rw [st_row a (by decide)]; exact h1, by rw [st_row a (by decide)]; exact h2, hh, e, by rw [st_row a (by decide)]; exact h3, num_ag h4 a.1 (Or.inr (by omega)), ?_⟩
  rw [st_row a (by decide), st_row (c := 608) a (by decide)]
  exact h5
theorem rt1_ar {c : Nat → List Int} {N : Nat} {s s' : im_S} {R R' b lo : Int} {P : List Int} {l0 r0 : Rat} (a : ar lo R' s s') (hR : 0 ≤ R) (hR1 : R < R') (hR' : R' ≤ 79) (hlo : lo ≤ 684000) (h : rt1 c N s R b P l0 r0) : rt1 c N s' R b P l0 r0 := by
  obtain ⟨h1, h2, hh, e, h3, h4, h5⟩ := h
  have rj : ∀ r : Nat, r ≠ 597 → wga s' r R = wga s r R := fun r hr => ar_rj a hR hr (by omega)
  refine ⟨by rw [rj 607 (by decide)]; exact h1, by rw [rj 611 (by decide)]; exact h2, hh, e, by rw [rj 612 (by decide)]; exact h3, ar_num a h4 (Or.inr (by omega)) hR' hlo (by omega), ?_⟩
  rw [rj 609 (by decide), rj 608 (by decide)]
  exact h5
theorem rt1_pa {c : Nat → List Int} {N : Nat} {s : im_S} {R b i x : Int} {r : Nat} {P : List Int} {l0 r0 : Rat} (hr : r = 615 ∨ r = 616) (h : rt1 c N s R b P l0 r0) : rt1 c N (wpa s r i x) R b P l0 r0 := by
  obtain ⟨h1, h2, hh, e, h3, h4, h5⟩ := h
  have rj : ∀ q : Nat, q ≠ 615 → q ≠ 616 → ∀ j : Int, wga (wpa s r i x) q j = wga s q j := fun q q1 q2 j => wg_row (by rcases hr with z | z <;> rw [z] <;> assumption)
  refine ⟨by rw [rj 607 (by decide) (by decide)]; exact h1, by rw [rj 611 (by decide) (by decide)]; exact h2, hh, e, by rw [rj 612 (by decide) (by decide)]; exact h3, num_co h4 h4.1 h4.2.1 (fun k _ _ => rj 597 (by decide) (by decide) _), ?_⟩
  rw [rj 609 (by decide) (by decide), rj 608 (by decide) (by decide)]
  exact h5
theorem pen_pa {s : im_S} {M h e j x : Int} {i : Nat} {r : Nat} (hr : r = 615 ∨ r = 616) (hj : 0 ≤ j) (hij : (i : Int) ≠ j) (p : pen s M i h e) : pen (wpa s r j x) M i h e := by
  obtain ⟨p1, p2, p3, p4⟩ := p
  have e1 : wga (wpa s r j x) 615 (i : Int) = wga s 615 (i : Int) := by
    rcases hr with q | q
    · rw [q]; exact wg_ne hj (by omega) hij
    · rw [q]; exact wg_row (by decide)
  have e2 : wga (wpa s r j x) 616 (i : Int) = wga s 616 (i : Int) := by
    rcases hr with q | q
    · rw [q]; exact wg_row (by decide)
    · rw [q]; exact wg_ne hj (by omega) hij
  refine ⟨by rw [e1]; exact nm_row (by rcases hr with q | q <;> rw [q] <;> decide) p1, by rw [e1]; exact p2, by rw [e2]; exact p3, p4⟩
