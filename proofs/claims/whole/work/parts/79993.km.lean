/-! WHAT HOLDS BETWEEN TWO CALLS besides LI, and that every method keeps it -/
def KP (s : im_S) : Prop := jI s ∧ slb s ∧ ∃ lo hi mi ot, fq s lo hi mi ot
def LI2 (s : im_S) : Prop := LI s ∧ KP s
theorem one553 {s : im_S} (h : oI s) : big s 553 1 := by
  obtain ⟨_, h1, h2, h3⟩ := h
  refine ⟨1, h1, ?_, h2, ?_, fun _ => ?_⟩
  · show (1 : Int) ≤ gln 554
    have : 1 ≤ gln 554 := by decide +kernel
    omega
  · show bv (s.2 554) 1 = 1
    simp [bv, h3]
  · show (4294967296 : Int) ^ 0 ≤ _
    decide
theorem KP_1 {s : im_S} (h : KP s) : kp1 s := ⟨h.2.1, h.2.2, one308 h.1.2.1, one553 h.1.2.1⟩
theorem pcI_k {L : Nat} {ys : Nat → Int32} {t d mi : Nat} {av : List im_V} {s : im_S} {R : Int → Prop} (h : pcI L ys t d mi av s (fun z s' => jI s' ∧ R z ∧ kp1 s')) : pcI L ys t d mi av s (fun _ s' => KP s') := fun res hr => by
  obtain ⟨z, h1, h2, _, h3⟩ := h res hr
  exact ⟨z, h1, h2, h3.1, h3.2.1⟩
theorem icK {L : Nat} {ys : Nat → Int32} {t d mi : Nat} {av : List im_V} {s : im_S} {R R2 : Int → im_S → Prop} (h : icI gG rm_P L ys t d mi av s R) (h2 : pcI L ys t d mi av s R2) : icI gG rm_P L ys t d mi av s (fun z s' => R z s' ∧ R2 z s') := by
  obtain ⟨res, hc, z, hz, hR⟩ := h
  obtain ⟨z2, hz2, hR2⟩ := h2 res hc
  rw [hz] at hz2
  cases hz2
  exact ⟨res, hc, z, hz, hR, hR2⟩
set_option maxRecDepth 100000 in
theorem gG_582 : (gG.drop 582).all (fun d => !(d.1 == 0) || cT.all (fun p => !(p.1 == d.2.1))) = true := by decide +kernel
theorem gG_lt {a ci f v : Nat} {tys : List Nat} (h : gG[a]? = some (0, ci, tys)) (hm : (ci, f, v) ∈ cT) : a < 582 := by
  by_cases c : a < 582
  · exact c
  · exfalso
    have e : (gG.drop 582)[a - 582]? = some (0, ci, tys) := by rw [List.getElem?_drop, show 582 + (a - 582) = a by omega]; exact h
    have z := List.all_eq_true.mp gG_582 _ (List.mem_of_getElem? e)
    simp only [Bool.or_eq_true, Bool.not_eq_true', beq_eq_false_iff_ne] at z
    rcases z with z | z
    · exact z rfl
    · have := List.all_eq_true.mp z _ hm
      simp at this
theorem clf_jI {s s' : im_S} (h : clf s s') (hj : jI s) : jI s' := by
  obtain ⟨⟨c1, c2⟩, o, m⟩ := hj
  refine ⟨⟨fun a ci tys ha f v hm => ?_, fun c b k n hm i hi => ?_⟩, ?_, ?_⟩
  · rw [(h a f (gG_lt ha hm)).1]; exact c1 a ci tys ha f v hm
  · have hc : c < 582 := by
      simp only [cU, List.mem_cons, List.not_mem_nil, or_false, Prod.mk.injEq] at hm
      omega
    rw [(h c i hc).2]; exact c2 c b k n hm i hi
  · unfold oI
    rw [(h 308 1 (by decide)).1, (h 308 2 (by decide)).1, (h 309 0 (by decide)).2, (h 553 1 (by decide)).1, (h 553 2 (by decide)).1, (h 554 0 (by decide)).2]
    exact o
  · unfold mI
    rw [(h 83 13 (by decide)).1, (h 83 14 (by decide)).1, (h 83 15 (by decide)).1, (h 83 16 (by decide)).1, (h 247 3 (by decide)).1, (h 247 4 (by decide)).1]
    exact m
theorem clf_KP {s s' : im_S} (h : clf s s') (hk : KP s) : KP s' := by
  obtain ⟨j, sl, lo, hi, mi, ot, q⟩ := hk
  refine ⟨clf_jI h j, slb_2 sl (fun i hi => (h _ _ (by omega)).1) (fun i hi => funext (fun k => (h _ k (by omega)).2)), lo, hi, mi, ot, ?_⟩
  unfold fq
  rw [(h 83 13 (by decide)).1, (h 83 14 (by decide)).1, (h 83 15 (by decide)).1, (h 83 16 (by decide)).1]
  exact q
set_option maxRecDepth 100000 in
theorem gK_23 : (List.range 582).all (fun b => !(gK[b]? == some 23) || (Nat.ble 311 b && Nat.ble b 550 && Nat.beq (b % 3) 2)) = true := by decide +kernel
set_option maxRecDepth 100000 in
theorem gK_23' : (List.range 80).all (fun j => gK[311 + 3 * j]? == some 23) = true := by decide +kernel
theorem RP_rp {s : im_S} (h : RP s) (j : Nat) (hj : j < 80) : rtp9 s j := by
  have z := List.all_eq_true.mp gK_23' j (List.mem_range.mpr hj)
  exact h _ (by simpa using z)
theorem rp_RP {s : im_S} (h : ∀ j, j < 80 → rtp9 s j) : RP s := fun b hb => by
  have z := List.all_eq_true.mp gK_23 b (List.mem_range.mpr (gK_lt hb))
  rw [hb] at z
  simp only [beq_self_eq_true, Bool.not_true, Bool.false_or, Bool.and_eq_true] at z
  obtain ⟨⟨z1, z2⟩, z3⟩ := z
  have z1 := Nat.le_of_ble_eq_true z1
  have z2 := Nat.le_of_ble_eq_true z2
  have z3 := Nat.eq_of_beq_eq_true z3
  have := h ((b - 311) / 3) (by omega)
  unfold rtp9 at this
  rw [show 311 + 3 * ((b - 311) / 3) = b by omega] at this
  exact this
theorem load_K (L : Nat) (ys : Nat → Int32) (s : im_S) (hI : LI s) (h : KP s) : icI gG rm_P L ys 0 86 220 [(2, ((0 : Nat) : Int))] s (fun _ s' => (tI s' ∧ rsm s s' ∧ s'.1 0 0 = 0 ∧ RP s') ∧ KP s') := by
  have h1 := sf_load9 L ys 0 s hI.1
  have h2 := c_load9 L ys 86 s h.1 (fun _ s' => kp1 s' ∧ ∀ j, j < 80 → rtp9 s' j) (load_k (RP_rp hI.2.2.2.2.2) (KP_1 h) h.1.2.2.2 (fun z s' a b => ⟨a, b⟩))
  obtain ⟨res, hc, z, hz, hR, hR2⟩ := icK h1 h2
  exact ⟨res, hc, z, hz, ⟨hR.1, fr_rsm hR.2.1, hR.2.2.2.2, rp_RP hR2.2.2.2⟩, hR2.1, hR2.2.2.1.1, hR2.2.2.1.2.1⟩
theorem K_type (L : Nat) (ys : Nat → Int32) (d : Nat) (s : im_S) (h : KP s) (l1 : Int) (l1r : iR l1) : pcI L ys 0 d 226 [(2, ((0 : Nat) : Int)), (0, l1)] s (fun _ s' => KP s') := pcI_k (c_type9 L ys d s h.1 l1 l1r (fun _ s' => kp1 s') (type_k (KP_1 h) (fun _ _ q => q)))
theorem K_four (L : Nat) (ys : Nat → Int32) (d : Nat) (s : im_S) (h : KP s) (l1 : Int) (l1r : iR l1) : pcI L ys 0 d 211 [(2, ((0 : Nat) : Int)), (0, l1)] s (fun _ s' => KP s') := pcI_k (c_four9 L ys d s h.1 l1 l1r (fun _ s' => kp1 s') (four_k (KP_1 h) (fun _ _ q => q)))
theorem K_count (L : Nat) (ys : Nat → Int32) (d : Nat) (s : im_S) (h : KP s) (l1 : Int) (l1r : iR l1) : pcI L ys 0 d 209 [(2, ((0 : Nat) : Int)), (0, l1)] s (fun _ s' => KP s') := pcI_k (c_count9 L ys d s h.1 l1 l1r (fun _ s' => kp1 s') (count_k (fun _ => KP_1 h)))
theorem K_atom (L : Nat) (ys : Nat → Int32) (d : Nat) (s : im_S) (h : KP s) (l1 : Int) (l1r : iR l1) (l2 : Int) (l2r : iR l2) : pcI L ys 0 d 206 [(2, ((0 : Nat) : Int)), (0, l1), (0, l2)] s (fun _ s' => KP s') := pcI_k (c_atom9 L ys d s h.1 l1 l1r l2 l2r (fun _ s' => kp1 s') (atom_k (fun _ => KP_1 h)))
theorem K_judge (L : Nat) (ys : Nat → Int32) (d : Nat) (s : im_S) (h : KP s) (l1 : Int) (l1r : iR l1) : pcI L ys 0 d 219 [(2, ((0 : Nat) : Int)), (0, l1)] s (fun _ s' => KP s') := pcI_k (c_judge9 L ys d s h.1 l1 l1r (fun _ s' => kp1 s') (judge_k (fun _ => KP_1 h)))
theorem K_holds (L : Nat) (ys : Nat → Int32) (d : Nat) (s : im_S) (h : KP s) (l1 : Int) (l1r : iR l1) : pcI L ys 0 d 212 [(2, ((0 : Nat) : Int)), (0, l1)] s (fun _ s' => KP s') := pcI_k (c_holds9 L ys d s h.1 l1 l1r (fun _ s' => kp1 s') (holds_k (fun _ => KP_1 h)))
theorem K_sign (L : Nat) (ys : Nat → Int32) (d : Nat) (s : im_S) (h : KP s) (l1 : Int) (l1r : iR l1) (l2 : Int) (l2r : iR l2) : pcI L ys 0 d 222 [(2, ((0 : Nat) : Int)), (0, l1), (0, l2)] s (fun _ s' => KP s') := pcI_k (c_sign9 L ys d s h.1 l1 l1r l2 l2r (fun _ s' => kp1 s') (sign_k (fun _ => KP_1 h)))
theorem K_root (L : Nat) (ys : Nat → Int32) (d : Nat) (s : im_S) (h : KP s) (l1 : Int) (l1r : iR l1) (l2 : Int) (l2r : iR l2) : pcI L ys 1 d 221 [(2, ((0 : Nat) : Int)), (0, l1), (0, l2)] s (fun _ s' => KP s') := pcI_k (c_root9 L ys d s h.1 l1 l1r l2 l2r (fun _ s' => kp1 s') (root_k (KP_1 h) (fun _ _ q => q)))
theorem K_times (L : Nat) (ys : Nat → Int32) (d : Nat) (s : im_S) (h : KP s) (l1 : Int) (l1r : iR l1) (l2 : Int) (l2r : iR l2) : pcI L ys 0 d 225 [(2, ((0 : Nat) : Int)), (0, l1), (0, l2)] s (fun _ s' => KP s') := pcI_k (c_times9 L ys d s h.1 l1 l1r l2 l2r (fun _ s' => kp1 s') (times_k (fun _ => KP_1 h)))
theorem K_exact (L : Nat) (ys : Nat → Int32) (d : Nat) (s : im_S) (h : KP s) (l1 : Int) (l1r : iR l1) (l2 : Int) (l2r : iR l2) : pcI L ys 1 d 210 [(2, ((0 : Nat) : Int)), (0, l1), (0, l2)] s (fun _ s' => KP s') := pcI_k (c_exact9 L ys d s h.1 l1 l1r l2 l2r (fun _ s' => kp1 s') (exact_k (fun _ => KP_1 h)))
theorem K_common (L : Nat) (ys : Nat → Int32) (d : Nat) (s : im_S) (h : KP s) (l1 : Int) (l1r : iR l1) : pcI L ys 0 d 208 [(2, ((0 : Nat) : Int)), (0, l1)] s (fun _ s' => KP s') := pcI_k (c_common9 L ys d s h.1 l1 l1r (fun _ s' => kp1 s') (common_k (fun _ => KP_1 h)))
theorem K_simple (L : Nat) (ys : Nat → Int32) (d : Nat) (s : im_S) (h : KP s) (l1 : Int) (l1r : iR l1) (l2 : Int) (l2r : iR l2) : pcI L ys 1 d 224 [(2, ((0 : Nat) : Int)), (0, l1), (0, l2)] s (fun _ s' => KP s') := pcI_k (c_simple9 L ys d s h.1 l1 l1r l2 l2r (fun _ s' => kp1 s') (simple_k (KP_1 h) (fun _ _ q => q)))
theorem K_cellOf (L : Nat) (ys : Nat → Int32) (d : Nat) (s : im_S) (h : KP s) (l1 : Int) (l1r : iR l1) (l2 : Int) (l2r : iR l2) : pcI L ys 0 d 207 [(2, ((0 : Nat) : Int)), (0, l1), (0, l2)] s (fun _ s' => KP s') := pcI_k (c_cellOf9 L ys d s h.1 l1 l1r l2 l2r (fun _ s' => kp1 s') (cellOf_k (KP_1 h) (fun _ _ q => q)))
theorem K_signAt (L : Nat) (ys : Nat → Int32) (d : Nat) (s : im_S) (h : KP s) (l1 : Int) (l1r : iR l1) (l2 : Int) (l2r : iR l2) (l3 : Int) (l3r : iR l3) : pcI L ys 0 d 223 [(2, ((0 : Nat) : Int)), (0, l1), (0, l2), (0, l3)] s (fun _ s' => KP s') := pcI_k (c_signAt9 L ys d s h.1 l1 l1r l2 l2r l3 l3r (fun _ s' => kp1 s') (signAt_k (KP_1 h) (fun _ _ q => q)))
