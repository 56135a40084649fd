/-! READS AND WRITES OF ARRAYS -/
section RMQ
variable {p : Program} {l : Launch} {e : Env} {R : Room} {s : State} {m : MethodId} {args : Array Value} {below : List Frame} {meth : Method} {c : Code} {Q : State → Prop}
variable {nL sz : Nat} {ext : Nat → Nat} {cA : Nat → ClassId} {D : va_G} {own : String} {L : Nat} {xs : rm_F} {ks : List rm_K5}
theorem rm_oneO {D : va_G} {sz : Nat} {ext : Nat → Nat} {cA : Nat → ClassId} {h : rm_H} {H : Heap} {a : Nat} {o : Nat × List Value} (hR : rm_R D sz ext cA h H) (h0 : h[a]? = some (.inr o)) : va_P D vwCl [(sz + a, rm_c sz ext cA (.inr o))] H := fun j y hj => by
  cases j with
  | zero => cases hj; exact hR.2 _ _ h0
  | succ j => simp at hj
theorem rm_oneP {D : va_G} {H : Heap} {x : Nat × va_E} (h : va_at D vwCl x H) : va_P D vwCl [x] H := fun j y hj => by
  cases j with
  | zero => cases hj; exact h
  | succ j => simp at hj
theorem rm_ts_lt {t : Nat} (h : t < 8) : ∃ ty, rm_ts[t]? = some ty := ⟨_, List.getElem?_eq_getElem (by show t < 8; exact h)⟩
theorem rm_s_alen (hx : p.tables.exec = Jvm.exec) (hX : rm_X D cA sz ext L xs s) : rm_KR p l e R s m args below meth c Q nL sz ext cA D .arraylength 1 (rm_alen L) := by
  intro q r hd hf _ _ K ls H locs hl hR hS
  unfold rm_alen at hf
  split at hf
  · rename_i a st hst
    split at hf
    · rename_i o ho
      split at hf
      · rename_i ht
        cases hf
        obtain ⟨t, n, d⟩ := o
        obtain ⟨ty, hty⟩ := rm_ts_lt ht
        have hk := K ls H locs hl hR hS
        have h0 := hR.2 _ _ (rm_arr_ok ho)
        rw [hst]
        obtain d | d | d | d | d := d
        · have h1 : va_at D vwCl (sz + a, rm_c sz ext cA (.inl (t, n, .inl d))) H := h0
          exact va_alen (D := D) (cl := vwCl) hx rfl hX.1 (rm_oneP h1) 0 t rfl (rm_tys_at hty) rfl hd hk
        · have h1 : va_at D vwCl (sz + a, rm_c sz ext cA (.inl (t, n, .inr (.inl d)))) H := h0
          exact va_alen (D := D) (cl := vwCl) hx rfl hX.1 (rm_oneP h1) 0 t rfl (rm_tys_at hty) rfl hd hk
        · obtain ⟨-, d9, -, h9⟩ := h0
          exact va_alen (D := D) (cl := vwCl) hx rfl hX.1 (rm_oneP h9) 0 t rfl (rm_tys_at hty) rfl hd hk
        · have h1 : va_at D vwCl (sz + a, rm_c sz ext cA (.inl (t, n, .inr (.inr (.inr (.inl d)))))) H := h0
          exact va_alen (D := D) (cl := vwCl) hx rfl hX.1 (rm_oneP h1) 0 t rfl (rm_tys_at hty) rfl hd hk
        · have h1 : va_at D vwCl (sz + a, rm_c sz ext cA (.inl (t, n, .inr (.inr (.inr (.inr d)))))) H := h0
          exact va_alen (D := D) (cl := vwCl) hx rfl hX.1 (rm_oneP h1) 0 t rfl (rm_tys_at hty) rfl hd hk
      · cases hf
    · cases hf
  · rename_i st hst
    split at hf
    · cases hf
    · rename_i hL
      cases hf
      obtain ⟨ys, ⟨scr, h1, h2, h3, h4, h5⟩, -⟩ := hX.2.2.2.1 hL
      have hk := K ls H locs hl hR hS
      rw [hst]
      exact W.alen (n := Int32.ofNat L) hx rfl (by rw [hS.1 _ hX.2.2.2.2.1.1]; exact h1) h2 (by rw [h4] <;> rfl) rfl rfl hd hk
  · rename_i st hst
    cases hf
    obtain ⟨-, -, -, hv⟩ := hX.2.2.2.2.1.2.2.1.1 0 (by decide)
    obtain ⟨cell, g1, g2, g3, g4, g5, g6, g7⟩ := hv.kept (rm_hq hS)
    have hk := K ls H locs hl hR hS
    rw [hst]
    exact W.alen (n := Int32.ofNat rm_sB.length) hx rfl g1 g2 g5 rfl rfl hd hk
  · cases hf
theorem rm_s_iald (hx : p.tables.exec = Jvm.exec) (hX : rm_X D cA sz ext L xs s) : rm_KR p l e R s m args below meth c Q nL sz ext cA D .iaload 1 (rm_iald L) := by
  intro q r hd hf _ _ K ls H locs hl hR hS
  unfold rm_iald at hf
  split at hf
  · rename_i i st hst
    split at hf
    · rename_i hi
      cases hf
      simp only [Bool.and_eq_true, decide_eq_true_eq] at hi
      obtain ⟨ys, ⟨scr, h1, h2, h3, h4, h5⟩, h6⟩ := hX.2.2.2.1 hi.2
      have hk := K ls H locs hl hR hS
      have hin := rm_in_ok hi.1.1
      have hlt : i.toNatClampNeg < L := Nat.not_le.mp fun z => hin (Or.inr z)
      have ev : rm_v sz ext (.float (UInt32.ofNat i.toNatClampNeg)) = .int (ys i.toNatClampNeg) := by
        show Value.int (rm_e ext (UInt32.ofNat i.toNatClampNeg).toNat) = _
        rw [rm_u32 (by omega), h6 _ hi.1.2]
      simp only [List.map_cons, ev] at hk
      rw [hst]
      exact W.iald (v := .int (ys i.toNatClampNeg)) hx rfl (by rw [hS.1 _ hX.2.2.2.2.1.1]; exact h1) h2 h3 (by rw [h4]; exact hin) (h5 _ hlt) rfl rfl hd hk
    · cases hf
  · cases hf
theorem rm_rf_map (sz : Nat) (ext : Nat → Nat) (x : Option Nat) : rm_v sz ext (va_rf x) = va_rf (x.map (fun k => sz + k)) := by cases x <;> rfl
theorem rm_s_aald (hx : p.tables.exec = Jvm.exec) (hX : rm_X D cA sz ext L xs s) : rm_KR p l e R s m args below meth c Q nL sz ext cA D .aaload 1 rm_aald := by
  intro q r hd hf _ _ K ls H locs hl hR hS
  unfold rm_aald at hf
  split at hf
  · rename_i i a st hst
    split at hf
    · rename_i t n f ho
      split at hf
      · rename_i hi
        cases hf
        simp only [Bool.and_eq_true, decide_eq_true_eq] at hi
        have hk := K ls H locs hl hR hS
        simp only [List.map_cons, rm_rf_map] at hk
        rw [hst]
        have hobj : ∃ C, rm_ts[t]? = some (.object C) := by
          match t, hi.1.2, hi.2 with
          | 5, _, _ => exact ⟨_, rfl⟩
          | 6, _, _ => exact ⟨_, rfl⟩
          | 7, _, _ => exact ⟨_, rfl⟩
        obtain ⟨C, hC⟩ := hobj
        have h9 : va_at D vwCl (sz + a, rm_c sz ext cA (.inl (t, n, .inr (.inr (.inr (.inr f)))))) H := hR.2 _ _ (rm_arr_ok ho)
        exact va_aldq (D := D) (cl := vwCl) (f := fun j => (f j).map (fun k => sz + k)) hx rfl hX.1 (rm_oneP h9) 0 t rfl (rm_tys_at hC) (rm_in_ok hi.1.1) hd hk
      · cases hf
    · cases hf
  · cases hf
theorem rm_s_iast (hx : p.tables.exec = Jvm.exec) (hX : rm_X D cA sz ext L xs s) : rm_KR p l e R s m args below meth c Q nL sz ext cA D .iastore 1 (rm_ist 0 rm_isI) := by
  intro q r hd hf _ _ K ls H locs hl hR hS
  unfold rm_ist at hf
  split at hf
  · rename_i v i a st hst
    split at hf
    · rename_i t n z9 ho
      split at hf
      · rename_i hi
        cases hf
        simp only [Bool.and_eq_true, decide_eq_true_eq] at hi
        obtain ⟨⟨rfl, hin⟩, hfx⟩ := hi
        have h0 := rm_arr_ok ho
        obtain ⟨ht5, d, hkd, hat⟩ := hR.2 _ _ h0
        obtain ⟨f, rfl⟩ : ∃ f, d = .inl (f) := hkd
        obtain ⟨x, hv⟩ := rm_isI_ok hfx sz ext
        rw [hst]
        simp only [List.map_cons, hv]
        refine W.iast hx rfl hat ((hX.1.2 0 _ rfl).1 n (fun j => .int (f j))) (fun z => by cases z) (by show ¬ (i < 0 ∨ (arrV _ _ _).slots.size ≤ _); rw [arrV_size]; exact rm_in_ok hin) rfl rfl hd fun H1 e1 z1 o1 => ?_
        refine K ls H1 _ hl (hR.same h0 ⟨ht5, .inl (upd f i.toNatClampNeg x), ⟨_, rfl⟩, ?_⟩ z1 o1) (hS.put (Nat.le_add_right sz a) o1)
        show H1[sz + a]? = some (vp_cell _ _)
        rw [e1]
        show some ((vp_cell (cA 0) (n, .inl (f))).setSlot _ _) = some (vp_cell (cA 0) (n, .inl (upd f i.toNatClampNeg x)))
        rw [vp_cell_i, vp_cell_i, arrV_store]
        congr 2
        funext z
        by_cases hq : z = i.toNatClampNeg
        · subst hq
          simp [updV, upd]
          try rfl
        · simp [updV, upd, hq]
      · cases hf
    · cases hf
  · cases hf
theorem rm_s_cast (hx : p.tables.exec = Jvm.exec) (hX : rm_X D cA sz ext L xs s) : rm_KR p l e R s m args below meth c Q nL sz ext cA D .castore 1 (rm_ist 2 rm_isI) := by
  intro q r hd hf _ _ K ls H locs hl hR hS
  unfold rm_ist at hf
  split at hf
  · rename_i v i a st hst
    split at hf
    · rename_i t n z9 ho
      split at hf
      · rename_i hi
        cases hf
        simp only [Bool.and_eq_true, decide_eq_true_eq] at hi
        obtain ⟨⟨rfl, hin⟩, hfx⟩ := hi
        have h0 := rm_arr_ok ho
        obtain ⟨ht5, d, hkd, hat⟩ := hR.2 _ _ h0
        obtain ⟨f, rfl⟩ : ∃ f, d = .inl (f) := hkd
        obtain ⟨x, hv⟩ := rm_isI_ok hfx sz ext
        rw [hst]
        simp only [List.map_cons, hv]
        refine W.cast hx rfl hat ((hX.1.2 2 _ rfl).1 n (fun j => .int (f j))) (fun z => by cases z) (by show ¬ (i < 0 ∨ (arrV _ _ _).slots.size ≤ _); rw [arrV_size]; exact rm_in_ok hin) rfl rfl hd fun H1 e1 z1 o1 => ?_
        refine K ls H1 _ hl (hR.same h0 ⟨ht5, .inl (upd f i.toNatClampNeg (vp_nar .char x)), ⟨_, rfl⟩, ?_⟩ z1 o1) (hS.put (Nat.le_add_right sz a) o1)
        show H1[sz + a]? = some (vp_cell _ _)
        rw [e1]
        show some ((vp_cell (cA 2) (n, .inl (f))).setSlot _ _) = some (vp_cell (cA 2) (n, .inl (upd f i.toNatClampNeg (vp_nar .char x))))
        rw [vp_cell_i, vp_cell_i, arrV_store]
        congr 2
        funext z
        by_cases hq : z = i.toNatClampNeg
        · subst hq
          simp [updV, upd, vp_nar]
          try rfl
        · simp [updV, upd, hq]
      · cases hf
    · cases hf
  · cases hf
theorem rm_s_last (hx : p.tables.exec = Jvm.exec) (hX : rm_X D cA sz ext L xs s) : rm_KR p l e R s m args below meth c Q nL sz ext cA D .lastore 1 (rm_ist 1 rm_isJ) := by
  intro q r hd hf _ _ K ls H locs hl hR hS
  unfold rm_ist at hf
  split at hf
  · rename_i v i a st hst
    split at hf
    · rename_i t n z9 ho
      split at hf
      · rename_i hi
        cases hf
        simp only [Bool.and_eq_true, decide_eq_true_eq] at hi
        obtain ⟨⟨rfl, hin⟩, hfx⟩ := hi
        have h0 := rm_arr_ok ho
        obtain ⟨ht5, d, hkd, hat⟩ := hR.2 _ _ h0
        obtain ⟨f, rfl⟩ : ∃ f, d = .inr (.inl (f)) := hkd
        obtain ⟨x, rfl⟩ := rm_isJ_ok hfx
        have hv : rm_v sz ext (.long x) = .long x := rfl
        rw [hst]
        simp only [List.map_cons, hv]
        refine W.last hx rfl hat ((hX.1.2 1 _ rfl).1 n (fun j => .long (f j))) (fun z => by cases z) (by show ¬ (i < 0 ∨ (arrV _ _ _).slots.size ≤ _); rw [arrV_size]; exact rm_in_ok hin) rfl rfl hd fun H1 e1 z1 o1 => ?_
        refine K ls H1 _ hl (hR.same h0 ⟨ht5, .inr (.inl (vp_updL f i.toNatClampNeg x)), ⟨_, rfl⟩, ?_⟩ z1 o1) (hS.put (Nat.le_add_right sz a) o1)
        show H1[sz + a]? = some (vp_cell _ _)
        rw [e1]
        show some ((vp_cell (cA 1) (n, .inr (.inl (f)))).setSlot _ _) = some (vp_cell (cA 1) (n, .inr (.inl (vp_updL f i.toNatClampNeg x))))
        rw [vp_cell_l, vp_cell_l, arrV_store]
        congr 2
        funext z
        by_cases hq : z = i.toNatClampNeg
        · subst hq
          simp [updV, vp_updL]
          try rfl
        · simp [updV, vp_updL, hq]
      · cases hf
    · cases hf
  · cases hf
theorem rm_s_aast (hx : p.tables.exec = Jvm.exec) (hX : rm_X D cA sz ext L xs s) : rm_KR p l e R s m args below meth c Q nL sz ext cA D .aastore 1 rm_aast := by
  intro q r hd hf _ _ K ls H locs hl hR hS
  unfold rm_aast at hf
  split at hf
  · rename_i v i a st hst
    split at hf
    · rename_i t n f o ho hv
      split at hf
      · rename_i hi
        cases hf
        simp only [Bool.and_eq_true, decide_eq_true_eq] at hi
        obtain ⟨ci, fs⟩ := o
        have h0 := rm_arr_ok ho
        obtain ⟨q9, hq9, cellV, g1, g2, g3, -⟩ := hR.2 _ _ (rm_obj_ok hv)
        have hin := rm_in_ok hi.1
        have hlt : i.toNatClampNeg < n := Nat.not_le.mp fun z => hin (Or.inr z)
        have hneg : ¬ i < 0 := fun z => hin (Or.inl z)
        have hcls := (hX.1.1 ci q9 hq9).2
        have hrt : rm_ts[t]? = some (.object q9.1) := by
          have h2 := hi.2
          unfold rm_tc at h2
          split at h2 <;> first | (cases h2; cases hq9; rfl) | cases h2
        obtain ⟨kA, comp, k1, k2, k3, -⟩ := (hX.1.2 t _ (rm_tys_at hrt)).2
        have hcomp : comp = D.1 ci := Option.some.inj (k3.symm.trans hcls.1)
        subst hcomp
        have hcls2 := hcls
        obtain ⟨kC, hkC, -⟩ := hcls.2
        rw [hst]
        refine W.aast hx rfl (hR.2 _ _ h0) (fun z h => by cases h) (fun h => by cases h) k1 k2 rfl hkC ⟨hneg, by show _ < (arrV _ _ _).slots.size; rw [arrV_size]; exact hlt⟩ g1 (fun z h => by rw [g3] at h; cases h) (by rw [g2]; exact hkC) (by rw [g2]; exact va_assign hcls2) rfl rfl hd fun H1 e1 z1 o1 => ?_
        refine K ls H1 _ hl (hR.set h0 ?_ z1 o1) (hS.put (Nat.le_add_right sz a) o1)
        show H1[sz + a]? = some (vp_cell _ _)
        rw [e1]
        show some ((vp_cell (cA t) (n, .inr (.inr (.inr (.inr (fun j => (f j).map (fun k => sz + k))))))).setSlot _ _) = some (vp_cell (cA t) (n, .inr (.inr (.inr (.inr (fun j => (va_up f i.toNatClampNeg (some v) j).map (fun k => sz + k)))))))
        rw [vp_cell_q, vp_cell_q, arrV_store]
        congr 2
        funext z
        by_cases hq : z = i.toNatClampNeg
        · subst hq
          simp [updV, va_up, va_rf]
        · simp [updV, va_up, hq]
      · cases hf
    · cases hf
  · cases hf
end RMQ
