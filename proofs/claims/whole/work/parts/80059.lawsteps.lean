/-! WHAT HOLDS BETWEEN TWO CALLS: the text too -/
def LI3 (s : im_S) : Prop := LI2 s ∧ agr (s.1 0 0) (s.2 3) (s.2 583)
/-- the class's question keeps KP and all but its own numbers -/
def KT (s s' : im_S) : Prop := KP s' ∧ qsf s s'
theorem pcI_t {L : Nat} {ys : Nat → Int32} {t d mi : Nat} {av : List im_V} {s : im_S} {R : Int → Prop} (h : pcI L ys t d mi av s (fun z s' => jI s' ∧ R z ∧ kq1 s s')) : pcI L ys t d mi av s (fun _ s' => KT s s') := fun res hr => by
  obtain ⟨z, h1, h2, _, h3⟩ := h res hr
  exact ⟨z, h1, ⟨h2, h3.1.1, h3.1.2.1⟩, h3.2⟩
theorem KP_q {s : im_S} (h : KP s) : kq1 s s := ⟨KP_1 h, qsf_refl s⟩
theorem pcI_and9 {L : Nat} {ys : Nat → Int32} {t d mi : Nat} {av : List im_V} {s : im_S} {R R2 : Int → im_S → Prop} (h : pcI L ys t d mi av s R) (h2 : pcI L ys t d mi av s R2) : pcI L ys t d mi av s (fun z s' => R z s' ∧ R2 z s') := fun res hr => by
  obtain ⟨z, e, q⟩ := h res hr
  obtain ⟨z', e', q'⟩ := h2 res hr
  rw [e] at e'
  cases e'
  exact ⟨z, e, q, q'⟩
theorem pcI_q9 {L : Nat} {ys : Nat → Int32} {t d mi : Nat} {av : List im_V} {s : im_S} {J : im_S → Prop} {R : Int → Prop} {R2 : Int → im_S → Prop} (h : pcI L ys t d mi av s (fun z s' => J s' ∧ R z ∧ R2 z s')) : pcI L ys t d mi av s R2 := fun res hr => by
  obtain ⟨z, e, _, _, q⟩ := h res hr
  exact ⟨z, e, q⟩
theorem T_type (L : Nat) (ys : Nat → Int32) (d : Nat) (s : im_S) (h : KP s) (h0 : 0 ≤ s.1 0 0) (h4 : s.1 0 0 ≤ 400) (l1 : Int) (l1r : iR l1) : pcI L ys 0 d 226 [(2, ((0 : Nat) : Int)), (0, l1)] s (fun _ s' => KP s' ∧ tyq l1 (s.1 0 0) (s.2 3) (s'.1 0 0) (s'.2 3)) := pcI_and9 (K_type L ys d s h l1 l1r) (pcI_q9 (c_type9 L ys d s h.1 l1 l1r (fun _ s' => tyq l1 (s.1 0 0) (s.2 3) (s'.1 0 0) (s'.2 3)) (type_tC h0 (fun _ _ q => q))))
theorem TR_type (L : Nat) (ys : Nat → Int32) (d : Nat) (s : im_S) (hv : vI s) (h : jI s) (h0 : 0 ≤ s.1 582 1) (h4 : s.1 582 1 ≤ 400) (l1 : Int) (l1r : iR l1) : pcI L ys 0 d 103 [(2, ((582 : Nat) : Int)), (0, l1)] s (fun _ s' => tyq l1 (s.1 582 1) (s.2 583) (s'.1 582 1) (s'.2 583)) := pcI_q9 (c_type10 L ys d s (vI_jR hv h) l1 l1r (fun _ s' => tyq l1 (s.1 582 1) (s.2 583) (s'.1 582 1) (s'.2 583)) (type_tR h0 h4 (fun _ _ q => q)))
theorem T_four (L : Nat) (ys : Nat → Int32) (d : Nat) (s : im_S) (h : KP s) (h0 : 0 ≤ s.1 0 0) (h4 : s.1 0 0 ≤ 400) (l1 : Int) (l1r : iR l1) : pcI L ys 0 d 211 [(2, ((0 : Nat) : Int)), (0, l1)] s (fun _ s' => KP s' ∧ fsq l1 (s.1 0 0) (s.2 3) (s'.1 0 0) (s'.2 3)) := pcI_and9 (K_four L ys d s h l1 l1r) (pcI_q9 (c_four9 L ys d s h.1 l1 l1r (fun _ s' => fsq l1 (s.1 0 0) (s.2 3) (s'.1 0 0) (s'.2 3)) (four_tC h0 h4 (fun _ _ q => q))))
theorem TR_four (L : Nat) (ys : Nat → Int32) (d : Nat) (s : im_S) (hv : vI s) (h : jI s) (h0 : 0 ≤ s.1 582 1) (h4 : s.1 582 1 ≤ 400) (l1 : Int) (l1r : iR l1) : pcI L ys 0 d 42 [(2, ((582 : Nat) : Int)), (0, l1)] s (fun _ s' => fsq l1 (s.1 582 1) (s.2 583) (s'.1 582 1) (s'.2 583)) := pcI_q9 (c_four10 L ys d s (vI_jR hv h) l1 l1r (fun _ s' => fsq l1 (s.1 582 1) (s.2 583) (s'.1 582 1) (s'.2 583)) (four_tR l1r h0 h4 (fun _ _ q => q)))
theorem T_count (L : Nat) (ys : Nat → Int32) (d : Nat) (s : im_S) (h : KP s) (l1 : Int) (l1r : iR l1) : pcI L ys 0 d 209 [(2, ((0 : Nat) : Int)), (0, l1)] s (fun _ s' => KT s s') := pcI_t (c_count9 L ys d s h.1 l1 l1r (fun _ s' => kq1 s s') (count_k (fun _ => KP_q h)))
theorem T_atom (L : Nat) (ys : Nat → Int32) (d : Nat) (s : im_S) (h : KP s) (l1 : Int) (l1r : iR l1) (l2 : Int) (l2r : iR l2) : pcI L ys 0 d 206 [(2, ((0 : Nat) : Int)), (0, l1), (0, l2)] s (fun _ s' => KT s s') := pcI_t (c_atom9 L ys d s h.1 l1 l1r l2 l2r (fun _ s' => kq1 s s') (atom_k (fun _ => KP_q h)))
theorem T_judge (L : Nat) (ys : Nat → Int32) (d : Nat) (s : im_S) (h : KP s) (l1 : Int) (l1r : iR l1) : pcI L ys 0 d 219 [(2, ((0 : Nat) : Int)), (0, l1)] s (fun _ s' => KT s s') := pcI_t (c_judge9 L ys d s h.1 l1 l1r (fun _ s' => kq1 s s') (judge_k (fun _ => KP_q h)))
theorem T_holds (L : Nat) (ys : Nat → Int32) (d : Nat) (s : im_S) (h : KP s) (l1 : Int) (l1r : iR l1) : pcI L ys 0 d 212 [(2, ((0 : Nat) : Int)), (0, l1)] s (fun _ s' => KT s s') := pcI_t (c_holds9 L ys d s h.1 l1 l1r (fun _ s' => kq1 s s') (holds_k (fun _ => KP_q h)))
theorem T_sign (L : Nat) (ys : Nat → Int32) (d : Nat) (s : im_S) (h : KP s) (l1 : Int) (l1r : iR l1) (l2 : Int) (l2r : iR l2) : pcI L ys 0 d 222 [(2, ((0 : Nat) : Int)), (0, l1), (0, l2)] s (fun _ s' => KT s s') := pcI_t (c_sign9 L ys d s h.1 l1 l1r l2 l2r (fun _ s' => kq1 s s') (sign_k (fun _ => KP_q h)))
theorem T_root (L : Nat) (ys : Nat → Int32) (d : Nat) (s : im_S) (h : KP s) (l1 : Int) (l1r : iR l1) (l2 : Int) (l2r : iR l2) : pcI L ys 1 d 221 [(2, ((0 : Nat) : Int)), (0, l1), (0, l2)] s (fun _ s' => KT s s') := pcI_t (c_root9 L ys d s h.1 l1 l1r l2 l2r (fun _ s' => kq1 s s') (root_t (KP_q h) (fun _ _ q => q)))
theorem T_times (L : Nat) (ys : Nat → Int32) (d : Nat) (s : im_S) (h : KP s) (l1 : Int) (l1r : iR l1) (l2 : Int) (l2r : iR l2) : pcI L ys 0 d 225 [(2, ((0 : Nat) : Int)), (0, l1), (0, l2)] s (fun _ s' => KT s s') := pcI_t (c_times9 L ys d s h.1 l1 l1r l2 l2r (fun _ s' => kq1 s s') (times_k (fun _ => KP_q h)))
theorem T_exact (L : Nat) (ys : Nat → Int32) (d : Nat) (s : im_S) (h : KP s) (l1 : Int) (l1r : iR l1) (l2 : Int) (l2r : iR l2) : pcI L ys 1 d 210 [(2, ((0 : Nat) : Int)), (0, l1), (0, l2)] s (fun _ s' => KT s s') := pcI_t (c_exact9 L ys d s h.1 l1 l1r l2 l2r (fun _ s' => kq1 s s') (exact_k (fun _ => KP_q h)))
theorem T_common (L : Nat) (ys : Nat → Int32) (d : Nat) (s : im_S) (h : KP s) (l1 : Int) (l1r : iR l1) : pcI L ys 0 d 208 [(2, ((0 : Nat) : Int)), (0, l1)] s (fun _ s' => KT s s') := pcI_t (c_common9 L ys d s h.1 l1 l1r (fun _ s' => kq1 s s') (common_k (fun _ => KP_q h)))
theorem T_simple (L : Nat) (ys : Nat → Int32) (d : Nat) (s : im_S) (h : KP s) (l1 : Int) (l1r : iR l1) (l2 : Int) (l2r : iR l2) : pcI L ys 1 d 224 [(2, ((0 : Nat) : Int)), (0, l1), (0, l2)] s (fun _ s' => KT s s') := pcI_t (c_simple9 L ys d s h.1 l1 l1r l2 l2r (fun _ s' => kq1 s s') (simple_t (KP_q h) (fun _ _ q => q)))
theorem T_cellOf (L : Nat) (ys : Nat → Int32) (d : Nat) (s : im_S) (h : KP s) (l1 : Int) (l1r : iR l1) (l2 : Int) (l2r : iR l2) : pcI L ys 0 d 207 [(2, ((0 : Nat) : Int)), (0, l1), (0, l2)] s (fun _ s' => KT s s') := pcI_t (c_cellOf9 L ys d s h.1 l1 l1r l2 l2r (fun _ s' => kq1 s s') (cellOf_t (KP_q h) (fun _ _ q => q)))
theorem T_signAt (L : Nat) (ys : Nat → Int32) (d : Nat) (s : im_S) (h : KP s) (l1 : Int) (l1r : iR l1) (l2 : Int) (l2r : iR l2) (l3 : Int) (l3r : iR l3) : pcI L ys 0 d 223 [(2, ((0 : Nat) : Int)), (0, l1), (0, l2), (0, l3)] s (fun _ s' => KT s s') := pcI_t (c_signAt9 L ys d s h.1 l1 l1r l2 l2r l3 l3r (fun _ s' => kq1 s s') (signAt_t (KP_q h) (fun _ _ q => q)))
/-- behind a question on both sides -/
theorem agr_o {s s1 s2 : im_S} (hI : LI s) (hG : agr (s.1 0 0) (s.2 3) (s.2 583)) (r : rsm s s1) (J0 : s1.1 0 0 = wgf s 1) (T1 : qsf s s1) (q5 : rfq s1 s2) : agr (s2.1 0 0) (s2.2 3) (s2.2 583) := by
  have q := rfq_clf q5
  have e0 : s2.1 0 0 = s.1 0 0 := ((q 0 0 (by decide)).1.trans J0).trans hI.2.2.2.2.1.symm
  have e3 : s2.2 3 = s.2 3 := (funext (fun i => (q 3 i (by decide)).2)).trans (T1.2 3 (by omega))
  have e5 : s2.2 583 = s.2 583 := (funext (fun i => q5.2 583 i (by omega) (by decide))).trans (r 583 (by decide)).2
  rw [e0, e3, e5]
  exact hG
/-- behind type or four on both sides -/
theorem agr_w {s s1 s2 : im_S} {P : Int → (Nat → Int) → Int → (Nat → Int) → Prop} (ag : ∀ {n n' n2 : Int} {f g f' g' : Nat → Int}, P n f n' f' → P n g n2 g' → agr n f g → n' = n2 ∧ agr n' f' g') (hI : LI s) (hG : agr (s.1 0 0) (s.2 3) (s.2 583)) (r : rsm s s1) (T1 : P (s.1 0 0) (s.2 3) (s1.1 0 0) (s1.2 3)) (T2 : P (s1.1 582 1) (s1.2 583) (s2.1 582 1) (s2.2 583)) (q : clf s1 s2) : agr (s2.1 0 0) (s2.2 3) (s2.2 583) := by
  have e0 : s1.1 582 1 = s.1 0 0 := (congrFun (r 582 (by decide)).1 1).trans hI.2.2.2.2.1.symm
  rw [e0, (r 583 (by decide)).2] at T2
  have h := (ag T1 T2 hG).2
  rw [(q 0 0 (by decide)).1, show s2.2 3 = s1.2 3 from funext (fun i => (q 3 i (by decide)).2)]
  exact h
theorem agr_0 {n : Int} {f g : Nat → Int} (h : n = 0) : agr n f g := fun k hk => by omega
theorem g3_400 : gln 3 = 400 := by decide +kernel
/-- load of the class: what it leaves, and its answer -/
theorem load_KV (L : Nat) (ys : Nat → Int32) (s : im_S) (hI : LI s) (h : KP s) (hG : agr (s.1 0 0) (s.2 3) (s.2 583)) : icI gG rm_P L ys 0 86 220 [(2, ((0 : Nat) : Int))] s (fun v s' => ((tI s' ∧ rsm s s' ∧ s'.1 0 0 = 0 ∧ RP s') ∧ KP s') ∧ ldQ (s.2 3) (s.1 0 0).toNat v s') := by
  have hb := hI.2.2.1
  have e0 := hI.2.2.2.2.1
  refine icK (load_K L ys s hI h) (pcI_q9 (c_load9w L ys 86 s h.1 (fun v s' => ldQ (s.2 3) (s.1 0 0).toNat v s') (load_w (KP_1 h) h.1.2.2.2 (by omega) (by omega) g3_400 (fun k _ => rfl) (fun k hk => (hG k (by omega)).2) (fun _ _ q => q))))
/-- the reference holds the same text -/
theorem rtx_s {s s1 : im_S} (hI : LI s) (hG : agr (s.1 0 0) (s.2 3) (s.2 583)) (r : rsm s s1) : rtx (s.2 3) (s.1 0 0).toNat s1 := by
  have hb := hI.2.2.1
  have e0 := hI.2.2.2.2.1
  refine ⟨?_, by omega, fun k hk => ?_, fun k hk => (hG k (by omega)).2⟩
  · rw [(r 582 (by decide)).1]
    have : s.1 582 1 = wgf s 1 := rfl
    omega
  · rw [(r 583 (by decide)).2]
    exact (hG k (by omega)).1.symm
