/-! THE TWO MACHINES -/
abbrev bst : Type := Nat → Bool
def bpu (b : Bool) (x : bst) : bst
  | 0 => b
  | i + 1 => x i
def bs1 (t : Nat → Bool) (c : Int) (x : bst) : bst := if c < 10 then bpu (t c.toNat) x else if c = 10 then bpu (!x 0) (fun i => x (i + 1)) else if c = 11 then bpu (x 1 && x 0) (fun i => x (i + 2)) else bpu (x 1 || x 0) (fun i => x (i + 2))
def brn (t : Nat → Bool) (l : List Int) (x : bst) : bst := l.foldl (fun x c => bs1 t c x) x
theorem brn_a (t : Nat → Bool) (l l' : List Int) (x : bst) : brn t (l ++ l') x = brn t l' (brn t l x) := by
  unfold brn
  rw [List.foldl_append]
/-- by how much a program lengthens the stack -/
def dpz : List Int → Int
  | [] => 0
  | c :: l => (if c < 10 then 1 else if c = 10 then 0 else -1) + dpz l
theorem dpz_a : ∀ l l' : List Int, dpz (l ++ l') = dpz l + dpz l'
  | [], l' => by show dpz l' = 0 + dpz l'; omega
  | c :: l, l' => by
    show (if c < 10 then 1 else if c = 10 then 0 else -1) + dpz (l ++ l') = (if c < 10 then 1 else if c = 10 then 0 else -1) + dpz l + dpz l'
    rw [dpz_a l l', Int.add_assoc]
/-- two programs do the same -/
def eqp (l l' : List Int) : Prop := (∀ t x, brn t l x = brn t l' x) ∧ dpz l = dpz l'
theorem eqp_a {l l' m m' : List Int} (h : eqp l l') (h' : eqp m m') : eqp (l ++ m) (l' ++ m') := ⟨fun t x => by rw [brn_a, brn_a, h.1, h'.1], by rw [dpz_a, dpz_a, h.2, h'.2]⟩
theorem eqp_r (l : List Int) : eqp l l := ⟨fun _ _ => rfl, rfl⟩
theorem not2 (t : Nat → Bool) (x : bst) : bs1 t 10 (bs1 t 10 x) = x := by
  unfold bs1
  rw [if_neg (by decide), if_pos rfl, if_neg (by decide), if_pos rfl]
  funext i
  cases i with
  | zero => show (!(!x 0)) = x 0; cases x 0 <;> rfl
  | succ i => rfl
theorem eqp_not : ∀ k : Nat, eqp (if k % 2 = 1 then [10] else []) (List.replicate k 10)
  | 0 => eqp_r _
  | 1 => eqp_r _
  | k + 2 => by
    have ih := eqp_not k
    have e : List.replicate (k + 2) (10 : Int) = 10 :: 10 :: List.replicate k 10 := rfl
    have e2 : (if (k + 2) % 2 = 1 then [(10 : Int)] else []) = if k % 2 = 1 then [10] else [] := by rw [show (k + 2) % 2 = k % 2 by omega]
    rw [e, e2]
    refine ⟨fun t x => ?_, ?_⟩
    · have e3 : brn t (10 :: 10 :: List.replicate k 10) x = brn t (List.replicate k 10) (bs1 t 10 (bs1 t 10 x)) := rfl
      rw [e3, not2]
      exact ih.1 t x
    · rw [ih.2]
      show dpz (List.replicate k 10) = 0 + (0 + dpz (List.replicate k 10))
      omega
/-- the reference's codes -/
def rcd (c : Int) : Int := if 0 ≤ c then c else if c = -1 then 10 else if c = -2 then 11 else 12
def eqr (l rho : List Int) : Prop := eqp l (rho.map rcd) ∧ ∀ c, c ∈ rho → 0 ≤ c → c ∈ l
theorem eqr_a {l m r r' : List Int} (h : eqr l r) (h' : eqr m r') : eqr (l ++ m) (r ++ r') := by
  unfold eqr
  rw [List.map_append]
  refine ⟨eqp_a h.1 h'.1, fun c hc c0 => ?_⟩
  rcases List.mem_append.1 hc with q | q
  · exact List.mem_append.2 (Or.inl (h.2 c q c0))
  · exact List.mem_append.2 (Or.inr (h'.2 c q c0))
def pshb (b : Bool) (c : Int) (B : atz) : atz := cond b (psh c B) B
def bl (b : Bool) (c : Int) : List Int := cond b [c] []
theorem eqr_pshb {b : Bool} {c c' : Int} {B : atz} {r : List Int} (h : eqr B.2 r) (hc : rcd c' = c) (hn : c' < 0) : eqr (pshb b c B).2 (r ++ bl b c') := by
  cases b with
  | false =>
    show eqr B.2 (r ++ [])
    rw [List.append_nil]; exact h
  | true =>
    refine eqr_a h ⟨?_, fun x hx x0 => ?_⟩
    · show eqp [c] [rcd c']
      rw [hc]; exact eqp_r _
    · rw [List.mem_singleton.1 hx] at x0
      omega
theorem eqr_ntk {k : Nat} {B : atz} {r : List Int} (h : eqr B.2 r) : eqr (ntk k B).2 (r ++ List.replicate k (-1)) := by
  have e : (ntk k B).2 = B.2 ++ (if k % 2 = 1 then [10] else []) := by
    unfold ntk psh
    by_cases q : k % 2 = 1
    · rw [if_pos q, if_pos q]
    · rw [if_neg q, if_neg q, List.append_nil]
  rw [e]
  refine eqr_a h ⟨?_, fun x hx x0 => ?_⟩
  · rw [List.map_replicate]
    exact eqp_not k
  · rw [(List.mem_replicate.1 hx).2] at x0
    omega
theorem eqr_at {A : atz} {a : Nat} {l r : List Int} (e : l = A.2 ++ [(a : Int)]) (h : eqr A.2 r) : eqr l (r ++ [(a : Int)]) := by
  rw [e]
  refine eqr_a h ⟨?_, fun x hx x0 => hx⟩
  show eqp [(a : Int)] [rcd (a : Int)]
  have : rcd (a : Int) = (a : Int) := if_pos (by omega)
  rw [this]; exact eqp_r _
/-! rows that hold a list -/
def lrw (r : Nat → Int) (l : List Int) : Prop := ∀ (i : Nat) (c : Int), l[i]? = some c → r i = c
theorem lrw_app {r r' : Nat → Int} {l : List Int} {x : Int} (h : lrw r l) (e : ∀ i, r' i = if i = l.length then x else r i) : lrw r' (l ++ [x]) := fun i c ec => by
  rw [e]
  by_cases q : i < l.length
  · rw [if_neg (by omega)]
    rw [List.getElem?_append_left q] at ec
    exact h i c ec
  · have ei : i = l.length := by
      by_cases w : i < l.length + 1
      · omega
      · rw [List.getElem?_eq_none (by rw [List.length_append]; show l.length + 1 ≤ i; omega)] at ec; cases ec
    rw [if_pos ei]
    rw [ei, List.getElem?_append_right (Nat.le_refl _), Nat.sub_self] at ec
    cases ec
    rfl
theorem lrw_pre {r : Nat → Int} {l l' : List Int} (h : lrw r (l ++ l')) : lrw r l := fun i c ec => by
  refine h i c ?_
  have q : i < l.length := by
    by_cases q : i < l.length
    · exact q
    · rw [List.getElem?_eq_none (by omega)] at ec; cases ec
  rw [List.getElem?_append_left q]
  exact ec
theorem lrw_at {r : Nat → Int} {l : List Int} {b : Int} (h : lrw r (l ++ [b])) : r l.length = b := h _ _ (by rw [List.getElem?_append_right (Nat.le_refl _), Nat.sub_self]; rfl)
theorem lst_x : ∀ l : List Int, l = [] ∨ ∃ L b, l = L ++ [b]
  | [] => Or.inl rfl
  | a :: l => Or.inr (by
    rcases lst_x l with e | ⟨L, b, e⟩
    · exact ⟨[], a, by rw [e]; rfl⟩
    · exact ⟨a :: L, b, by rw [e]; rfl⟩)
def mde (s : im_S) (l : List Int) : Prop := s.1 582 10 = (l.length : Int) ∧ lrw (s.2 586) l
def wts (s : im_S) (l : List Int) : Prop := s.1 582 12 = (l.length : Int) ∧ (l.length : Int) ≤ 2147483647 ∧ lrw (s.2 587) l
theorem mde_fr {F : Nat → Nat → Prop} {R : Nat → Prop} {s s' : im_S} {l : List Int} (h : mde s l) (f : gfr F R s s') (h1 : ¬ F 582 10) (h2 : ¬ R 586) : mde s' l := ⟨by rw [f.1 _ _ h1]; exact h.1, by rw [f.2 _ h2]; exact h.2⟩
theorem wts_fr {F : Nat → Nat → Prop} {R : Nat → Prop} {s s' : im_S} {l : List Int} (h : wts s l) (f : gfr F R s s') (h1 : ¬ F 582 12) (h2 : ¬ R 587) : wts s' l := ⟨by rw [f.1 _ _ h1]; exact h.1, h.2.1, by rw [f.2 _ h2]; exact h.2.2⟩
theorem mde_mk {s s' : im_S} {l : List Int} {x : Int} (h : mde s l) (q : mkq s s' x) : mde s' (l ++ [x]) := by
  obtain ⟨b, e, r⟩ := q
  have g := gln_r 586
  unfold iR at g
  rw [h.1] at b e
  refine ⟨?_, lrw_app h.2 (fun i => ?_)⟩
  · rw [e, w32_id (by omega) (by omega), List.length_append]; rfl
  · rw [r, h.1, Int.toNat_natCast]
theorem make_z {x : Int} {s : im_S} {l : List Int} {Q : im_S → Prop} (h : mde s l) (hQ : ∀ s', wtf9 s s' → mde s' (l ++ [x]) → s'.2 587 = s.2 587 → s'.1 582 12 = s.1 582 12 → Q s') : C_make10 x s Q := fun hb s1 e1 s2 e2 => by
  have q : mkq s s2 x := by
    refine ⟨hb, ?_, fun i => ?_⟩
    · have : cgf s1 582 10 = s.1 582 10 := by rw [e1]; rfl
      rw [e2, cpf_same, this]
    · have w : s2.2 = s1.2 := by subst e2; rfl
      rw [w, e1, cpa_row]; rfl
  refine hQ s2 ?_ (mde_mk h q) ?_ ?_
  · subst e2; subst e1; exact gfr_pf (gfr_pa (gfr_refl _ _ _) (Or.inl rfl)) ⟨rfl, by omega⟩
  · have w : s2.2 = s1.2 := by subst e2; rfl
    rw [w, e1, cpa_ne (by decide)]
  · rw [e2, cpf_ne (by omega), e1]; rfl
theorem wait_z {x : Int} {s : im_S} {l : List Int} {Q : im_S → Prop} (h : wts s l) (hQ : ∀ s', wtf9 s s' → wts s' (l ++ [x]) → s'.2 586 = s.2 586 → s'.1 582 10 = s.1 582 10 → Q s') : C_wait110 x s Q := fun hb s1 e1 s2 e2 => by
  have g := gln_r 587
  unfold iR at g
  have c12 : cgf s 582 12 = (l.length : Int) := h.1
  rw [c12] at hb e1
  refine hQ s2 ?_ ⟨?_, by rw [List.length_append]; show ((l.length + 1 : Nat) : Int) ≤ _; omega, lrw_app h.2.2 (fun i => ?_)⟩ ?_ ?_
  · subst e2; subst e1; exact gfr_pf (gfr_pa (gfr_refl _ _ _) (Or.inr rfl)) ⟨rfl, by omega⟩
  · have : cgf s1 582 12 = (l.length : Int) := by rw [e1]; exact h.1
    rw [e2, cpf_same, this, w32_id (by omega) (by omega), List.length_append]; rfl
  · have w : s2.2 = s1.2 := by subst e2; rfl
    rw [w, e1, cpa_row, Int.toNat_natCast]
  · have w : s2.2 = s1.2 := by subst e2; rfl
    rw [w, e1, cpa_ne (by decide)]
  · rw [e2, cpf_ne (by omega), e1]; rfl
theorem settle_z {x : Int} {s : im_S} {rho w0 u : List Int} {Q : im_S → Prop} (hm : mde s rho) (hw : wts s (w0 ++ u)) (hu : ∀ c, c ∈ u → x ≤ c ∧ c ≠ -4) (h0 : ∀ L b, w0 = L ++ [b] → b < x ∨ b = -4) (hQ : ∀ s', wtf9 s s' → mde s' (rho ++ u.reverse) → wts s' w0 → Q s') : C_settle10 x s Q := by
  refine ⟨fun a => wtf9 s a ∧ ∃ u1 u2, u = u1 ++ u2 ∧ mde a (rho ++ u2.reverse) ∧ wts a (w0 ++ u1), ⟨gfr_refl _ _ _, u, [], by rw [List.append_nil], by show mde s (rho ++ []); rw [List.append_nil]; exact hm, hw⟩, ?_⟩
  rintro a ⟨f, u1, u2, eu, ma, wa⟩
  have g := gln_r 587
  unfold iR at g
  have c12 : cgf a 582 12 = ((w0 ++ u1).length : Int) := wa.1
  have done : u1 = [] → Q a := fun e => by
    subst e
    rw [List.nil_append] at eu
    subst eu
    rw [List.append_nil] at wa
    exact hQ a f ma wa
  unfold C_settle10_0 C_settle10_64
  rw [c12]
  refine ⟨fun c => done ?_, fun c => ?_⟩
  · have : (w0 ++ u1).length = 0 := by omega
    rw [List.length_append] at this
    exact List.eq_nil_of_length_eq_zero (by omega)
  · rcases lst_x (w0 ++ u1) with e | ⟨L, b, e⟩
    · rw [e] at c; exact absurd (by show ((0 : Nat) : Int) ≤ 0; omega) c
    · have len : (w0 ++ u1).length = L.length + 1 := by rw [e, List.length_append]; rfl
      rw [len, show ((L.length + 1 : Nat) : Int) - 1 = (L.length : Int) by omega]
      rw [e] at wa
      have vb : a.2 587 L.length = b := lrw_at wa.2.2
      have lb := wa.2.1
      rw [List.length_append] at lb
      have lb2 : ((L.length + 1 : Nat) : Int) ≤ 2147483647 := lb
      have big : w32 (L.length : Int) = (L.length : Int) := w32_id (by omega) (by omega)
      rw [big]
      intro hb1
      have vb' : cga a 587 (L.length : Int) = b := by show a.2 587 ((L.length : Nat) : Int).toNat = b; rw [Int.toNat_natCast]; exact vb
      rw [vb']
      rcases lst_x u1 with e1 | ⟨L1, b1, e1⟩
      · subst e1
        rw [List.append_nil] at e
        refine ⟨fun _ => done rfl, fun c1 _ => ⟨fun _ => done rfl, fun c2 => ?_⟩⟩
        rcases h0 L b e with q | q
        · exact absurd q c1
        · exact absurd q c2
      · subst e1
        have e' : L = w0 ++ L1 ∧ b = b1 := by
          rw [← List.append_assoc] at e
          obtain ⟨x1, x2⟩ := List.append_inj' e rfl
          exact ⟨x1.symm, by cases x2; rfl⟩
        obtain ⟨eL, eb⟩ := e'
        subst eb
        have hb := hu b (by rw [eu]; exact List.mem_append.2 (Or.inl (List.mem_append.2 (Or.inr (List.mem_singleton.2 rfl)))))
        refine ⟨fun q => by omega, fun c1 _ => ⟨fun q => absurd q hb.2, fun c2 s1 e1 hb2 => ?_⟩⟩
        have f1 : wtf9 s s1 := by rw [e1]; exact gfr_pf f ⟨rfl, by omega⟩
        have r1 : s1.2 = a.2 := by rw [e1]; rfl
        have k12 : cgf s1 582 12 = (L.length : Int) := by rw [e1]; exact cpf_same _ _ _ _
        have k10 : s1.1 582 10 = a.1 582 10 := by rw [e1, cpf_ne (by omega)]
        have vb1 : cga s1 587 (L.length : Int) = b := by show s1.2 587 ((L.length : Nat) : Int).toNat = b; rw [Int.toNat_natCast, r1]; exact vb
        rw [k12, vb1]
        refine make_z (l := rho ++ u2.reverse) ⟨k10.trans ma.1, by rw [r1]; exact ma.2⟩ (fun s2 f2 m2 r2 k2 => ⟨gfr_trans f1 f2, L1, [b] ++ u2, by rw [eu, List.append_assoc], ?_, ?_⟩)
        · rw [List.reverse_append]
          show mde s2 (rho ++ (u2.reverse ++ [b]))
          rw [← List.append_assoc]; exact m2
        · rw [← eL]
          exact ⟨k2.trans k12, by omega, by rw [r2, r1]; exact lrw_pre wa.2.2⟩
