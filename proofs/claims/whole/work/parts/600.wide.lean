/-! THE REFERENCE LIFTED: fields and rows of its cells, and the steps on them -/
abbrev iR (x : Int) : Prop := -2147483648 ≤ x ∧ x ≤ 2147483647
abbrev lR (x : Int) : Prop := -9223372036854775808 ≤ x ∧ x ≤ 9223372036854775807
abbrev zR (x : Int) : Prop := x = 0 ∨ x = 1
theorem zR_i {x : Int} (h : zR x) : iR x := by
  rcases h with rfl | rfl <;> exact ⟨by decide, by decide⟩
theorem iR_l {x : Int} (h : iR x) : lR x := ⟨by have := h.1; omega, by have := h.2; omega⟩
theorem w_ng0 {x : Int} (h : iR (-x)) : -2147483647 ≤ x := by have := h.2; omega
theorem w_ng1 {x : Int} (h : lR (-x)) : -9223372036854775807 ≤ x := by have := h.2; omega
theorem w_tdiv0 {x y : Int} (hx : iR x) (h : 0 < y) (hy : iR y) : iR (x.tdiv y) := by
  have z := im_tdiv_rng (im_rng hx.1 hx.2) (im_rng hy.1 hy.2) (by omega)
  unfold im_iI at z
  simp only [Bool.and_eq_true, decide_eq_true_eq] at z
  exact z
theorem w_tdiv1 {x y : Int} (hx : lR x) (h : 0 < y) (hy : lR y) : lR (x.tdiv y) := by
  have z := im_tdiv_rngJ (im_rngJ hx.1 hx.2) (im_rngJ hy.1 hy.2) (by omega)
  unfold im_iJ at z
  simp only [Bool.and_eq_true, decide_eq_true_eq] at z
  exact z
theorem w_tmod0 {x y : Int} (_hx : iR x) (h : 0 < y) (hy : iR y) : iR (x.tmod y) := by
  have b1 := Int.tmod_lt_of_pos x h
  have b2 := Int.lt_tmod_of_pos x h
  exact ⟨by have := hy.2; omega, by have := hy.2; omega⟩
theorem w_tmod1 {x y : Int} (_hx : lR x) (h : 0 < y) (hy : lR y) : lR (x.tmod y) := by
  have b1 := Int.tmod_lt_of_pos x h
  have b2 := Int.lt_tmod_of_pos x h
  exact ⟨by have := hy.2; omega, by have := hy.2; omega⟩
/-- a loop: something that holds each time, and a number that falls -/
def wloop {α : Type} (B : (α → Prop) → α → Prop) (a : α) : Prop := ∃ (I : α → Prop) (r : α → Nat), I a ∧ ∀ a, I a → B (fun b => I b ∧ r b < r a) a
def wgf (s : im_S) (f : Nat) : Int := s.1 582 f
def wga (s : im_S) (c : Nat) (i : Int) : Int := s.2 c i.toNat
def wpf (s : im_S) (f : Nat) (x : Int) : im_S := (im_up s.1 582 f x, s.2)
def wpa (s : im_S) (c : Nat) (i x : Int) : im_S := (s.1, im_up s.2 c i.toNat x)
def vTys : List Nat := [3, 0, 0, 0, 0, 2, 0, 3, 3, 3, 0, 3, 0, 3, 3, 3, 3, 3, 3, 3, 3, 0, 3, 3, 0, 0, 3, 3, 0, 0, 3, 3, 0, 0, 0, 3, 0, 3, 3, 3, 3, 0, 3, 3, 3, 3, 3, 3, 3, 3, 3, 3, 0, 3, 3]
def vF : List (Nat × Nat) := [(3, 583), (0, 0), (0, 0), (0, 0), (0, 0), (2, 0), (0, 0), (3, 584), (3, 585), (3, 586), (0, 0), (3, 587), (0, 0), (3, 588), (3, 589), (3, 590), (3, 591), (3, 592), (3, 593), (3, 594), (3, 595), (0, 0), (3, 596), (3, 597), (0, 0), (0, 0), (3, 598), (3, 599), (0, 0), (0, 0), (3, 600), (3, 601), (0, 0), (0, 0), (0, 0), (3, 602), (0, 0), (3, 603), (3, 604), (3, 605), (3, 606), (0, 0), (3, 607), (3, 608), (3, 609), (3, 610), (3, 611), (3, 612), (3, 613), (3, 614), (3, 615), (3, 616), (0, 0), (3, 617), (3, 618)]
def vE : List (Nat × Nat) := [(0, 400), (1, 90), (0, 10), (0, 500), (0, 500), (4, 400), (1, 108), (1, 108), (1, 108), (1, 9), (0, 12), (0, 12), (0, 12), (1, 9), (0, 700000), (0, 1200), (0, 10800), (0, 12), (0, 20000), (0, 200), (0, 90), (0, 90), (0, 90), (0, 2000), (0, 90), (1, 90), (1, 90), (0, 90), (0, 90), (0, 90), (0, 90), (0, 90), (0, 800), (0, 800), (0, 2000), (4, 200)]
def vO (t : Nat) (x : Int) : Prop := if t = 1 then lR x else if t = 0 then iR x else zR x
def vI (s : im_S) : Prop := (∀ f t c : Nat, vF[f]? = some (t, c) → if t = 3 then s.1 582 f = (c : Int) else vO t (s.1 582 f)) ∧ ∀ c t n : Nat, 583 ≤ c → vE[c - 583]? = some (t, n) → ∀ i : Nat, i < n → vO t (s.2 c i)
theorem vI_pf {s : im_S} {f t c : Nat} {x : Int} (h : vI s) (hf : vF[f]? = some (t, c)) (ht : t ≠ 3) (hx : vO t x) : vI (wpf s f x) := by
  refine ⟨fun g t2 c2 hg => ?_, h.2⟩
  by_cases e : g = f
  · subst e
    rw [hf] at hg
    cases hg
    rw [if_neg ht]
    show vO t (im_up s.1 582 g x 582 g)
    rw [im_up_same]
    exact hx
  · have z := h.1 g t2 c2 hg
    have e2 : (wpf s f x).1 582 g = s.1 582 g := im_up_ne (fun q => e q.2)
    rw [e2]
    exact z
theorem vI_pa {s : im_S} {a t n : Nat} {i x : Int} (h : vI s) (ha : 583 ≤ a) (he : vE[a - 583]? = some (t, n)) (hx : vO t x) : vI (wpa s a i x) := by
  refine ⟨h.1, fun c t2 n2 hc he2 j hj => ?_⟩
  by_cases e : c = a ∧ j = i.toNat
  · obtain ⟨rfl, rfl⟩ := e
    rw [he] at he2
    cases he2
    show vO t (im_up s.2 c i.toNat x c i.toNat)
    rw [im_up_same]
    exact hx
  · have e2 : (wpa s a i x).2 c j = s.2 c j := im_up_ne e
    rw [e2]
    exact h.2 c t2 n2 hc he2 j hj
theorem vg_582 : gG[582]? = some (0, 10, vTys) := (hG_at usk_0).trans rfl
theorem vg_583 : gG[583]? = some (1, 400, []) := (hG_at usk_1).trans rfl
theorem vg_584 : gG[584]? = some (2, 90, []) := (hG_at usk_2).trans rfl
theorem vg_585 : gG[585]? = some (1, 10, []) := (hG_at usk_3).trans rfl
theorem vg_586 : gG[586]? = some (1, 500, []) := (hG_at usk_4).trans rfl
theorem vg_587 : gG[587]? = some (1, 500, []) := (hG_at usk_5).trans rfl
theorem vg_588 : gG[588]? = some (5, 400, []) := (hG_at usk_6).trans rfl
theorem vg_589 : gG[589]? = some (2, 108, []) := (hG_at usk_7).trans rfl
theorem vg_590 : gG[590]? = some (2, 108, []) := (hG_at usk_8).trans rfl
theorem vg_591 : gG[591]? = some (2, 108, []) := (hG_at usk_9).trans rfl
theorem vg_592 : gG[592]? = some (2, 9, []) := (hG_at usk_10).trans rfl
theorem vg_593 : gG[593]? = some (1, 12, []) := (hG_at usk_11).trans rfl
theorem vg_594 : gG[594]? = some (1, 12, []) := (hG_at usk_12).trans rfl
theorem vg_595 : gG[595]? = some (1, 12, []) := (hG_at usk_13).trans rfl
theorem vg_596 : gG[596]? = some (2, 9, []) := (hG_at usk_14).trans rfl
theorem vg_597 : gG[597]? = some (1, 700000, []) := (hG_at usk_15).trans rfl
theorem vg_598 : gG[598]? = some (1, 1200, []) := (hG_at usk_16).trans rfl
theorem vg_599 : gG[599]? = some (1, 10800, []) := (hG_at usk_17).trans rfl
theorem vg_600 : gG[600]? = some (1, 12, []) := (hG_at usk_18).trans rfl
theorem vg_601 : gG[601]? = some (1, 20000, []) := (hG_at usk_19).trans rfl
theorem vg_602 : gG[602]? = some (1, 200, []) := (hG_at usk_20).trans rfl
theorem vg_603 : gG[603]? = some (1, 90, []) := (hG_at usk_21).trans rfl
theorem vg_604 : gG[604]? = some (1, 90, []) := (hG_at usk_22).trans rfl
theorem vg_605 : gG[605]? = some (1, 90, []) := (hG_at usk_23).trans rfl
theorem vg_606 : gG[606]? = some (1, 2000, []) := (hG_at usk_24).trans rfl
theorem vg_607 : gG[607]? = some (1, 90, []) := (hG_at usk_25).trans rfl
theorem vg_608 : gG[608]? = some (2, 90, []) := (hG_at usk_26).trans rfl
theorem vg_609 : gG[609]? = some (2, 90, []) := (hG_at usk_27).trans rfl
theorem vg_610 : gG[610]? = some (1, 90, []) := (hG_at usk_28).trans rfl
theorem vg_611 : gG[611]? = some (1, 90, []) := (hG_at usk_29).trans rfl
theorem vg_612 : gG[612]? = some (1, 90, []) := (hG_at usk_30).trans rfl
theorem vg_613 : gG[613]? = some (1, 90, []) := (hG_at usk_31).trans rfl
theorem vg_614 : gG[614]? = some (1, 90, []) := (hG_at usk_32).trans rfl
theorem vg_615 : gG[615]? = some (1, 800, []) := (hG_at usk_33).trans rfl
theorem vg_616 : gG[616]? = some (1, 800, []) := (hG_at usk_34).trans rfl
theorem vg_617 : gG[617]? = some (1, 2000, []) := (hG_at usk_35).trans rfl
theorem vg_618 : gG[618]? = some (5, 200, []) := (hG_at usk_36).trans rfl
section IRV
variable {P : Nat → rm_M} {L : Nat} {ys : Nat → Int32} {d : Nat} {M : rm_M} {pc pc' : Nat} {lv lv' : List (Nat × im_V)} {st : List im_V} {s : im_S} {Q : im_Re → Prop}
theorem ir_vgi {idx f w c : Nat} (hf : rm_find M.1 pc = some (.getfield idx, 3)) (hl : rm_lk M.2.1 idx = some (0, 10, f, w)) (hp : pc + 3 = pc') (ht : vTys[f]? = some 0) (hk : vF[f]? = some (0, c)) (hT : vI s) (h : iR (wgf s f) → ir gG P L ys d M (pc', lv, (0, wgf s f) :: st, s) Q) : ir gG P L ys d M (pc, lv, (2, ((582 : Nat) : Int)) :: st, s) Q := by
  have z : iR (s.1 582 f) := hT.1 f 0 c hk
  exact ir_getI hf hl hp vg_582 ht (by decide) (by decide) rfl z.1 z.2 (h z)
theorem ir_vgz {idx f w c : Nat} (hf : rm_find M.1 pc = some (.getfield idx, 3)) (hl : rm_lk M.2.1 idx = some (0, 10, f, w)) (hp : pc + 3 = pc') (ht : vTys[f]? = some 2) (hk : vF[f]? = some (2, c)) (hT : vI s) (h : zR (wgf s f) → ir gG P L ys d M (pc', lv, (0, wgf s f) :: st, s) Q) : ir gG P L ys d M (pc, lv, (2, ((582 : Nat) : Int)) :: st, s) Q := by
  have z : zR (s.1 582 f) := hT.1 f 2 c hk
  exact ir_getI hf hl hp vg_582 ht (by decide) (by decide) rfl (zR_i z).1 (zR_i z).2 (h z)
theorem ir_vgr {idx f w c : Nat} (hf : rm_find M.1 pc = some (.getfield idx, 3)) (hl : rm_lk M.2.1 idx = some (0, 10, f, w)) (hp : pc + 3 = pc') (ht : vTys[f]? = some 3) (hk : vF[f]? = some (3, c)) (hT : vI s) (h : ir gG P L ys d M (pc', lv, (2, (c : Int)) :: st, s) Q) : ir gG P L ys d M (pc, lv, (2, ((582 : Nat) : Int)) :: st, s) Q := by
  have z : s.1 582 f = (c : Int) := hT.1 f 3 c hk
  exact ir_getR hf hl hp vg_582 ht z h
theorem ir_vpi {idx f c w : Nat} {x : Int} (hf : rm_find M.1 pc = some (.putfield idx, 3)) (hl : rm_lk M.2.1 idx = some (0, 10, f, w)) (hp : pc + 3 = pc') (ht : vTys[f]? = some 0) (hk : vF[f]? = some (0, c)) (hw : rm_fin 10 f = false) (hq : rm_ft 10 f = rm_ft 10 24) (hT : vI s) (hx : iR x) (h : ∀ s', s' = wpf s f x → vI s' → ir gG P L ys d M (pc', lv, st, s') Q) : ir gG P L ys d M (pc, lv, (0, x) :: (2, ((582 : Nat) : Int)) :: st, s) Q :=
  ir_put (v := (0, x)) hf hl hp vg_582 ht (by rw [hq]; rfl) hw rfl (h _ rfl (vI_pf hT hk (by decide) hx))
theorem ir_vpz {idx f c w : Nat} {x : Int} (hf : rm_find M.1 pc = some (.putfield idx, 3)) (hl : rm_lk M.2.1 idx = some (0, 10, f, w)) (hp : pc + 3 = pc') (ht : vTys[f]? = some 2) (hk : vF[f]? = some (2, c)) (hw : rm_fin 10 f = false) (hq : rm_ft 10 f = rm_ft 10 5) (hT : vI s) (hx : zR x) (h : ∀ s', s' = wpf s f x → vI s' → ir gG P L ys d M (pc', lv, st, s') Q) : ir gG P L ys d M (pc, lv, (0, x) :: (2, ((582 : Nat) : Int)) :: st, s) Q :=
  ir_put (v := (0, x)) hf hl hp vg_582 ht (by rw [hq]; first | rfl | exact im_fitZ rfl hx) hw rfl (h _ rfl (vI_pf hT hk (by decide) hx))
theorem vI_row {a t n : Nat} {i : Int} (hT : vI s) (h5 : 583 ≤ a) (hk : vE[a - 583]? = some (t, n)) (i1 : 0 ≤ i) (i2 : i < n) : vO t (wga s a i) := hT.2 a t n h5 hk i.toNat (by omega)
theorem ir_via {a n : Nat} {i m : Int} (hf : rm_find M.1 pc = some (.iaload, 1)) (hp : pc + 1 = pc') (hG : gG[a]? = some (1, n, [])) (hk : vE[a - 583]? = some (0, n)) (h5 : 583 ≤ a) (hT : vI s) (hm : (n : Int) = m) (hi : 0 ≤ i ∧ i < m) (h : iR (wga s a i) → ir gG P L ys d M (pc', lv, (0, wga s a i) :: st, s) Q) : ir gG P L ys d M (pc, lv, (0, i) :: (2, (a : Int)) :: st, s) Q := by
  subst hm
  have z : iR (wga s a i) := vI_row hT h5 hk hi.1 hi.2
  exact ir_iald hf hp hG hi.1 hi.2 rfl z.1 z.2 (h z)
theorem ir_vla {a n : Nat} {i m : Int} (hf : rm_find M.1 pc = some (.laload, 1)) (hp : pc + 1 = pc') (hG : gG[a]? = some (2, n, [])) (hk : vE[a - 583]? = some (1, n)) (h5 : 583 ≤ a) (hT : vI s) (hm : (n : Int) = m) (hi : 0 ≤ i ∧ i < m) (h : lR (wga s a i) → ir gG P L ys d M (pc', lv, (1, wga s a i) :: st, s) Q) : ir gG P L ys d M (pc, lv, (0, i) :: (2, (a : Int)) :: st, s) Q := by
  subst hm
  have z : lR (wga s a i) := vI_row hT h5 hk hi.1 hi.2
  exact ir_lald hf hp hG hi.1 hi.2 rfl z.1 z.2 (h z)
theorem ir_vba {a n : Nat} {i m : Int} (hf : rm_find M.1 pc = some (.baload, 1)) (hp : pc + 1 = pc') (hG : gG[a]? = some (5, n, [])) (hk : vE[a - 583]? = some (4, n)) (h5 : 583 ≤ a) (hT : vI s) (hm : (n : Int) = m) (hi : 0 ≤ i ∧ i < m) (h : zR (wga s a i) → ir gG P L ys d M (pc', lv, (0, wga s a i) :: st, s) Q) : ir gG P L ys d M (pc, lv, (0, i) :: (2, (a : Int)) :: st, s) Q := by
  subst hm
  have z : zR (wga s a i) := vI_row hT h5 hk hi.1 hi.2
  exact ir_bald hf hp hG (Or.inr rfl) hi.1 hi.2 rfl (zR_i z).1 (zR_i z).2 (h z)
theorem ir_vis {a n : Nat} {i m x : Int} (hf : rm_find M.1 pc = some (.iastore, 1)) (hp : pc + 1 = pc') (hG : gG[a]? = some (1, n, [])) (hk : vE[a - 583]? = some (0, n)) (h5 : 583 ≤ a) (hT : vI s) (hm : (n : Int) = m) (hi : 0 ≤ i ∧ i < m) (hx : iR x) (h : ∀ s', s' = wpa s a i x → vI s' → ir gG P L ys d M (pc', lv, st, s') Q) : ir gG P L ys d M (pc, lv, (0, x) :: (0, i) :: (2, (a : Int)) :: st, s) Q := by
  subst hm
  exact ir_iast hf rfl rfl hp hG hi.1 hi.2 rfl (h _ rfl (vI_pa hT h5 hk hx))
theorem ir_vls {a n : Nat} {i m x : Int} (hf : rm_find M.1 pc = some (.lastore, 1)) (hp : pc + 1 = pc') (hG : gG[a]? = some (2, n, [])) (hk : vE[a - 583]? = some (1, n)) (h5 : 583 ≤ a) (hT : vI s) (hm : (n : Int) = m) (hi : 0 ≤ i ∧ i < m) (hx : lR x) (h : ∀ s', s' = wpa s a i x → vI s' → ir gG P L ys d M (pc', lv, st, s') Q) : ir gG P L ys d M (pc, lv, (1, x) :: (0, i) :: (2, (a : Int)) :: st, s) Q := by
  subst hm
  exact ir_last hf hp hG hi.1 hi.2 (h _ rfl (vI_pa hT h5 hk hx))
theorem ir_vbs {a n : Nat} {i m x : Int} (hf : rm_find M.1 pc = some (.bastore, 1)) (hp : pc + 1 = pc') (hG : gG[a]? = some (5, n, [])) (hk : vE[a - 583]? = some (4, n)) (h5 : 583 ≤ a) (hT : vI s) (hm : (n : Int) = m) (hi : 0 ≤ i ∧ i < m) (hx : zR x) (h : ∀ s', s' = wpa s a i x → vI s' → ir gG P L ys d M (pc', lv, st, s') Q) : ir gG P L ys d M (pc, lv, (0, x) :: (0, i) :: (2, (a : Int)) :: st, s) Q := by
  subst hm
  exact ir_bast hf hp hG (Or.inr rfl) hi.1 hi.2 (im_fit_of (lo := 0) (hi := 1) (by decide) (by omega) (by omega)) (h _ rfl (vI_pa hT h5 hk hx))
theorem w_shl : ∀ k : Nat, k < 62 → (Int64.ofInt 1 <<< ((Int32.ofInt (k : Int)).toInt64 &&& 63)).toInt = 2 ^ k := by decide +kernel
theorem w_p2 {y : Int} (_h0 : 0 ≤ y) (h1 : y < 62) : lR (2 ^ y.toNat) := by
  have z : ∀ k : Nat, k < 62 → lR ((2 : Int) ^ k) := by decide +kernel
  exact z _ (by omega)
theorem ir_vshl {y : Int} (hf : rm_find M.1 pc = some (.lshl, 1)) (hp : pc + 1 = pc') (h0 : 0 ≤ y) (h1 : y < 62) (h : ir gG P L ys d M (pc', lv, (1, 2 ^ y.toNat) :: st, s) Q) : ir gG P L ys d M (pc, lv, (0, y) :: (1, 1) :: st, s) Q := by
  obtain ⟨k, rfl⟩ := Int.eq_ofNat_of_zero_le h0
  exact ir_jij hf rfl rfl hp (w_shl k (by omega)) h
end IRV
