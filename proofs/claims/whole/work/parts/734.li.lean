/-! what holds between two calls -/
def RP (s : im_S) : Prop := ∀ b : Nat, gK[b]? = some 23 → (s.1 b 1 = 0 ∨ 1 ≤ s.1 b 3)
def LI (s : im_S) : Prop := tI s ∧ vI s ∧ (0 ≤ wgf s 1 ∧ wgf s 1 ≤ 400) ∧ rd s ∧ s.1 0 0 = wgf s 1 ∧ RP s
/-- the reference's cells as they were -/
def rsm (s s' : im_S) : Prop := ∀ a, 582 ≤ a → s'.1 a = s.1 a ∧ s'.2 a = s.2 a
theorem rsm_f {s s' : im_S} (h : rsm s s') (f : Nat) : wgf s' f = wgf s f := congrFun (h 582 (Nat.le_refl _)).1 f
theorem rsm_r {s s' : im_S} (h : rsm s s') (c : Nat) (i : Int) (hc : 582 ≤ c) : wga s' c i = wga s c i := congrFun (h c hc).2 i.toNat
theorem rsm_pol {s s' : im_S} {f : Int} {P : List Int} (h : rsm s s') (hp : pol s f P) : pol s' f P := by
  obtain ⟨f1, f2, f3, f4, f5, f6⟩ := hp
  refine ⟨f1, by rw [rsm_f h]; exact f2, by rw [rsm_f h]; exact f3, f4, by rw [rsm_r h 598 _ (by decide)]; exact f5, fun i hi => ?_⟩
  rw [rsm_r h 599 _ (by decide)]
  obtain ⟨n1, n2⟩ := f6 i hi
  exact ⟨num_co n1 n1.1 n1.2.1 (fun t _ _ => rsm_r h 597 _ (by decide)), by rw [rsm_f h]; exact n2⟩
theorem rsm_rk {s s' : im_S} {R : Nat} {f : Int} {F : List Int} {lo hi : Rat} (h : rsm s s') (hk : rk s R f F lo hi) : rk s' R f F lo hi := by
  have r9 : ∀ (c : Nat) (i : Int), 582 ≤ c → wga s' c i = wga s c i := fun c i h1 => rsm_r h c i h1
  rcases hk with k | ⟨k1, k2, k3, hh, E, k4, ⟨i1, i2, i3, i4, i5, i6, i7, i8⟩, k6, k7⟩
  · exact Or.inl (by rw [r9 609 _ (by decide), r9 608 _ (by decide)]; exact k)
  · exact Or.inr ⟨by rw [r9 609 _ (by decide)]; exact k1, k2, rsm_pol h k3, hh, E, k4, ⟨by rw [r9 610 _ (by decide)]; exact i1, by rw [r9 611 _ (by decide)]; exact i2, by rw [r9 612 _ (by decide)]; exact i3, num_co i4 i4.1 i4.2.1 (fun t _ _ => r9 597 _ (by decide)), i5, i6, i7, by rw [r9 613 _ (by decide)]; exact i8⟩, k6, k7⟩
theorem rsm_rd {s s' : im_S} (h : rsm s s') (hr : rd s) : rd s' := by
  rcases hr with q | ⟨n, nb, f, F, lo, hi, r0, r1, r2, r3, r4, r5, r6, r7, r8, r9, r10⟩
  · exact Or.inl (by rw [rsm_f h]; exact q)
  · have rr : ∀ (c : Nat) (i : Int), 582 ≤ c → wga s' c i = wga s c i := fun c i h1 => rsm_r h c i h1
    refine Or.inr ⟨n, nb, f, F, lo, hi, ⟨r0.1, fun R hR => rsm_rk h (r0.2 R hR)⟩, by rw [rsm_f h]; exact r1, by rw [rsm_f h]; exact r2, r3, by rw [rsm_f h]; exact r4, by rw [rsm_f h]; exact r5, fun k hk => ?_, fun R hR => ?_, fun i hi => ?_, fun b hb => ?_, fun i hi => ?_⟩
    · rw [rr 614 _ (by decide)]; exact r6 k hk
    · rw [rr 607 _ (by decide)]; exact r7 R hR
    · rw [rr 606 _ (by decide)]; exact r8 i hi
    · rw [rr 602 _ (by decide), rr 598 _ (by decide)]; exact r9 b hb
    · rw [rsm_f h] at hi
      rw [rr 584 _ (by decide)]; exact r10 i hi
theorem rsm_vI {s s' : im_S} (h : rsm s s') (hv : vI s) : vI s' := by
  refine ⟨fun f t c hf => ?_, fun c t n hc he i hi => ?_⟩
  · rw [(h 582 (Nat.le_refl _)).1]; exact hv.1 f t c hf
  · rw [(h c (by omega)).2]; exact hv.2 c t n hc he i hi
theorem fr_rsm {l : List (Nat × Nat)} {s s' : im_S} (h : fr l s s') : rsm s s' := h.2
theorem clf_tI {s s' : im_S} (h : clf s s') (ht : tI s) : tI s' := by
  refine ⟨fun a k ha f tl hf => ?_, fun a k ha tl he i hi => ?_⟩
  · rw [(h a f (gK_lt ha)).1]; exact ht.1 a k ha f tl hf
  · rw [(h a i (gK_lt ha)).2]; exact ht.2 a k ha tl he i hi
theorem clf_RP {s s' : im_S} (h : clf s s') (hr : RP s) : RP s' := fun b hb => by
  rw [(h b 1 (gK_lt hb)).1, (h b 3 (gK_lt hb)).1]
  exact hr b hb
theorem fr_RP {l : List (Nat × Nat)} {s s' : im_S} (h : fr l s s') (h1 : (23, 1) ∉ l) (h3 : (23, 3) ∉ l) (hr : RP s) : RP s' := fun b hb => by
  rw [h.1 b 23 hb 1 h1, h.1 b 23 hb 3 h3]
  exact hr b hb
/-- behind the class's call: its own signs told, the reference as it was -/
def LJ (s s' : im_S) : Prop := tI s' ∧ vI s' ∧ (∀ f, wgf s' f = wgf s f) ∧ rd s' ∧ RP s'
theorem LJ_fr {l : List (Nat × Nat)} {s s' : im_S} (hI : LI s) (hT : tI s') (h : fr l s s') (h1 : (23, 1) ∉ l) (h3 : (23, 3) ∉ l) : LJ s s' := ⟨hT, rsm_vI (fr_rsm h) hI.2.1, fun f => rsm_f (fr_rsm h) f, rsm_rd (fr_rsm h) hI.2.2.2.1, fr_RP h h1 h3 hI.2.2.2.2.2⟩
theorem LJ_0 {l : List (Nat × Nat)} {s s' : im_S} (hI : LI s) (h : fr l s s') (h0 : (0, 0) ∉ l) : s'.1 0 0 = wgf s 1 := (h.1 0 0 tsk_0 0 h0).trans hI.2.2.2.2.1
/-- behind the reference's -/
theorem LI_ref {s s' : im_S} {n : Int} (hT : tI s) (hR : RP s) (h0 : s.1 0 0 = n) (hv : vI s') (hc : clf s s') (h1 : wgf s' 1 = n) (hn : 0 ≤ n ∧ n ≤ 400) (hr : rd s') : LI s' := ⟨clf_tI hc hT, hv, by rw [h1]; exact hn, hr, by rw [(hc 0 0 (by decide)).1, h0, h1], clf_RP hc hR⟩
section IRX
variable {G : List im_D} {P : Nat → rm_M} {L : Nat} {ys : Nat → Int32} {d : Nat} {M : rm_M} {pc pc' : Nat} {lv : List (Nat × im_V)} {st : List im_V} {s : im_S} {Q : im_Re → Prop}
theorem ir_xlen (hf : rm_find M.1 pc = some (.arraylength, 1)) (hp : pc + 1 = pc') (hL : L ≤ 2048) (h : ir G P L ys d M (pc', lv, (0, (L : Int)) :: st, s) Q) : ir G P L ys d M (pc, lv, (4, 0) :: st, s) Q := by
  refine ir_x hf rfl rfl (fun lv => ?_) h
  show (match rm_xl L (0 : Int).toNat with
    | some k => some (pc + 1, lv, (0, (Int32.ofNat k).toInt) :: st, s)
    | none => none) = _
  have e : rm_xl L (0 : Int).toNat = some L := by
    show (if (0 : Nat) = 0 then (if L = 1000000 then none else some L) else _) = some L
    rw [if_pos rfl, if_neg (by omega)]
  rw [e, hp]
  have e2 : (Int32.ofNat L).toInt = (L : Int) := by
    have := im_to32 (x := (L : Int)) (by unfold im_iI; simp only [Bool.and_eq_true, decide_eq_true_eq]; omega)
    rw [← this]
    rfl
  show some (pc', lv, (0, (Int32.ofNat L).toInt) :: st, s) = _
  rw [e2]
theorem ir_xld {i : Int} (hf : rm_find M.1 pc = some (.iaload, 1)) (hp : pc + 1 = pc') (hL : L ≤ 2048) (h0 : 0 ≤ i) (h1 : i < L) (h : ir G P L ys d M (pc', lv, (0, (ys i.toNat).toInt) :: st, s) Q) : ir G P L ys d M (pc, lv, (0, i) :: (4, 0) :: st, s) Q := by
  refine ir_x hf rfl rfl (fun lv => ?_) h
  have e : im_iald G L ys (pc, lv, (0, i) :: (4, 0) :: st, s) = (if im_in i L && decide (L ≠ 1000000) then some (pc + 1, lv, (0, (ys i.toNat).toInt) :: st, s) else none) := by
    show (if (0 : Int) = 0 then (if im_in i L && decide (L ≠ 1000000) then some (pc + 1, lv, (0, (ys i.toNat).toInt) :: st, s) else none) else (if (0 : Int) = 6 then (if im_in i rm_zN then some (pc + 1, lv, (0, (rm_zV.getD i.toNat 0).toInt) :: st, s) else none) else none)) = _
    rw [if_pos rfl]
  rw [e, if_pos (by unfold im_in; simp only [Bool.and_eq_true, decide_eq_true_eq]; omega), hp]
end IRX
theorem i32_r (x : Int32) : -2147483648 ≤ x.toInt ∧ x.toInt ≤ 2147483647 := by
  have := im_of32 x
  unfold im_iI at this
  simp only [Bool.and_eq_true, decide_eq_true_eq] at this
  exact this
/-- what is wanted of the class's load -/
def LOADP : Prop := ∀ (L : Nat) (ys : Nat → Int32) (s0 : im_S), tI s0 → RP s0 → icI gG rm_P L ys 0 86 220 [(2, ((0 : Nat) : Int))] s0 (fun _ s => tI s ∧ rsm s0 s ∧ s.1 0 0 = 0 ∧ RP s)
