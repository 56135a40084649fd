/-! READS AND WRITES OF ARRAYS -/
section RMQ
variable {p : Program} {l : Launch} {e : Env} {R : Room} {s : State} {m : MethodId} {args : Array Value} {below : List Frame} {meth : Method} {c : Code} {Q : State → Prop}
variable {nL sz : Nat} {ext : Nat → Nat} {cA : Nat → ClassId} {D : va_G} {own : String} {L : Nat} {ys : Nat → Int32} {ks : List rm_K5}
theorem rm_oneO {D : va_G} {sz : Nat} {ext : Nat → Nat} {cA : Nat → ClassId} {h : rm_H} {H : Heap} {a : Nat} {o : Nat × List Value} (hR : rm_R D sz ext cA h H) (h0 : h[a]? = some (.inr o)) : va_P D vwCl [(sz + a, rm_c sz ext cA (.inr o))] H := fun j y hj => by
  cases j with
  | zero => cases hj; exact hR.2 _ _ h0
  | succ j => simp at hj
theorem rm_oneP {D : va_G} {H : Heap} {x : Nat × va_E} (h : va_at D vwCl x H) : va_P D vwCl [x] H := fun j y hj => by
  cases j with
  | zero => cases hj; exact h
  | succ j => simp at hj
theorem rm_ts_lt {t : Nat} (h : t < 8) : ∃ ty, rm_ts[t]? = some ty := ⟨_, List.getElem?_eq_getElem (by show t < 8; exact h)⟩
theorem rm_s_alen (hx : p.tables.exec = Jvm.exec) (hX : rm_X D cA sz ext L ys s) : rm_KR p l e R s m args below meth c Q nL sz ext cA D .arraylength 1 (rm_alen L) := by
  intro q r hd hf _ _ K ls H locs hl hR hS
  unfold rm_alen at hf
  split at hf
  · rename_i a st hst
    split at hf
    · rename_i o ho
      split at hf
      · rename_i ht
        cases hf
        obtain ⟨t, n, d⟩ := o
        obtain ⟨ty, hty⟩ := rm_ts_lt ht
        have hk := K ls H locs hl hR hS
        have h0 := hR.2 _ _ (rm_arr_ok ho)
        rw [hst]
        obtain d | d | d | d | d := d
        · have h1 : va_at D vwCl (sz + a, rm_c sz ext cA (.inl (t, n, .inl d))) H := h0
          exact va_alen (D := D) (cl := vwCl) hx rfl hX.1 (rm_oneP h1) 0 t rfl (rm_tys_at hty) rfl hd hk
        · have h1 : va_at D vwCl (sz + a, rm_c sz ext cA (.inl (t, n, .inr (.inl d)))) H := h0
          exact va_alen (D := D) (cl := vwCl) hx rfl hX.1 (rm_oneP h1) 0 t rfl (rm_tys_at hty) rfl hd hk
        · have h1 : va_at D vwCl (sz + a, rm_c sz ext cA (.inl (t, n, .inr (.inr (.inl d))))) H := h0
          exact va_alen (D := D) (cl := vwCl) hx rfl hX.1 (rm_oneP h1) 0 t rfl (rm_tys_at hty) rfl hd hk
        · have h1 : va_at D vwCl (sz + a, rm_c sz ext cA (.inl (t, n, .inr (.inr (.inr (.inl d)))))) H := h0
          exact va_alen (D := D) (cl := vwCl) hx rfl hX.1 (rm_oneP h1) 0 t rfl (rm_tys_at hty) rfl hd hk
        · have h1 : va_at D vwCl (sz + a, rm_c sz ext cA (.inl (t, n, .inr (.inr (.inr (.inr d)))))) H := h0
          exact va_alen (D := D) (cl := vwCl) hx rfl hX.1 (rm_oneP h1) 0 t rfl (rm_tys_at hty) rfl hd hk
      · cases hf
    · cases hf
  · rename_i n st hst
    split at hf
    · rename_i k hk9
      cases hf
      have hk := K ls H locs hl hR hS
      rw [hst]
      unfold rm_xl at hk9
      split at hk9
      · rename_i hn
        subst hn
        split at hk9
        · cases hk9
        · rename_i hL
          cases hk9
          obtain ⟨scr, h1, h2, h3, h4, h5⟩ := hX.2.2.2.1 hL
          exact W.alen (n := Int32.ofNat L) hx rfl (by rw [hS.1 _ hX.2.2.2.2.1]; exact h1) h2 (by rw [h4] <;> rfl) rfl rfl hd hk
      · split at hk9
        · rename_i hn
          obtain ⟨t, ht, rfl, e9⟩ := rm_t3 hn
          rw [e9] at hk9
          obtain ⟨-, -, -, hv⟩ := hX.2.2.2.2.2.2.1.1 t ht
          obtain ⟨cell, g1, g2, g3, g4, g5, g6, g7⟩ := hv.kept (rm_hq hS)
          have e8 : rm_sN.getD t 0 = k := by rw [List.getD_eq_getElem?_getD, hk9]; rfl
          rw [e8] at g5
          exact W.alen (n := Int32.ofNat k) hx rfl g1 g2 g5 rfl rfl hd hk
        · split at hk9
          · rename_i hn
            subst hn
            cases hk9
            obtain ⟨cell, g1, g2, g3, g4, g5, g6, g7⟩ := hX.2.2.2.2.2.2.2.2.2.kept (rm_hq hS)
            exact W.alen (n := Int32.ofNat rm_zN) hx rfl g1 g2 g5 rfl rfl hd hk
          · cases hk9
    · cases hf
  · cases hf
theorem rm_s_iald (hx : p.tables.exec = Jvm.exec) (hX : rm_X D cA sz ext L ys s) : rm_KR p l e R s m args below meth c Q nL sz ext cA D .iaload 1 (rm_iald L ys) := by
  intro q r hd hf _ _ K ls H locs hl hR hS
  unfold rm_iald at hf
  split at hf
  · rename_i i a st hst
    split at hf
    · rename_i n f ho
      split at hf
      · rename_i hi
        cases hf
        have h9 : va_at D vwCl (sz + a, rm_c sz ext cA (.inl (0, n, .inl f))) H := hR.2 _ _ (rm_arr_ok ho)
        have hk := K ls H locs hl hR hS
        rw [hst]
        exact va_iald (D := D) (cl := vwCl) (f := f) hx rfl hX.1 (rm_oneP h9) 0 0 rfl (rm_tys_at rfl) (rm_in_ok hi) hd hk
      · cases hf
    · cases hf
  · rename_i i n st hst
    split at hf
    · rename_i hn
      subst hn
      split at hf
      · rename_i hi
        cases hf
        simp only [Bool.and_eq_true, decide_eq_true_eq] at hi
        obtain ⟨scr, h1, h2, h3, h4, h5⟩ := hX.2.2.2.1 hi.2
        have hk := K ls H locs hl hR hS
        have hin := rm_in_ok hi.1
        have hlt : i.toNatClampNeg < L := Nat.not_le.mp fun z => hin (Or.inr z)
        rw [hst]
        exact W.iald (v := .int (ys i.toNatClampNeg)) hx rfl (by rw [hS.1 _ hX.2.2.2.2.1]; exact h1) h2 h3 (by rw [h4]; exact hin) (h5 _ hlt) rfl rfl hd hk
      · cases hf
    · split at hf
      · rename_i hn
        subst hn
        split at hf
        · rename_i hi
          cases hf
          obtain ⟨cell, g1, g2, g3, g4, g5, g6, g7⟩ := hX.2.2.2.2.2.2.2.2.2.kept (rm_hq hS)
          have hin := rm_in_ok hi
          have hlt : i.toNatClampNeg < rm_zN := Nat.not_le.mp fun z => hin (Or.inr z)
          have hk := K ls H locs hl hR hS
          rw [hst]
          exact W.iald (v := .int (rm_zV.getD i.toNatClampNeg 0)) hx rfl g1 g2 g3 (fun z => hin (z.imp id (fun z => Nat.le_trans (by exact g4) z))) (g6 _ hlt) rfl rfl hd hk
        · cases hf
      · cases hf
  · cases hf
theorem rm_s_lald (hx : p.tables.exec = Jvm.exec) (hX : rm_X D cA sz ext L ys s) : rm_KR p l e R s m args below meth c Q nL sz ext cA D .laload 1 rm_lald := by
  intro q r hd hf _ _ K ls H locs hl hR hS
  unfold rm_lald at hf
  split at hf
  · rename_i i a st hst
    split at hf
    · rename_i n f ho
      split at hf
      · rename_i hi
        cases hf
        have h9 : va_at D vwCl (sz + a, rm_c sz ext cA (.inl (1, n, .inr (.inl f)))) H := hR.2 _ _ (rm_arr_ok ho)
        have hk := K ls H locs hl hR hS
        rw [hst]
        exact va_lald (D := D) (cl := vwCl) (f := f) hx rfl hX.1 (rm_oneP h9) 0 1 rfl (rm_tys_at rfl) (rm_in_ok hi) hd hk
      · cases hf
    · cases hf
  · cases hf
theorem rm_s_cald (hx : p.tables.exec = Jvm.exec) (hX : rm_X D cA sz ext L ys s) : rm_KR p l e R s m args below meth c Q nL sz ext cA D .caload 1 rm_cald := by
  intro q r hd hf _ _ K ls H locs hl hR hS
  unfold rm_cald at hf
  split at hf
  · rename_i i a st hst
    split at hf
    · rename_i n f ho
      split at hf
      · rename_i hi
        cases hf
        have h9 : va_at D vwCl (sz + a, rm_c sz ext cA (.inl (2, n, .inl f))) H := hR.2 _ _ (rm_arr_ok ho)
        have hk := K ls H locs hl hR hS
        rw [hst]
        exact va_cald (D := D) (cl := vwCl) (f := f) hx rfl hX.1 (rm_oneP h9) 0 2 rfl (rm_tys_at rfl) (rm_in_ok hi) hd hk
      · cases hf
    · cases hf
  · cases hf
theorem rm_s_bald (hx : p.tables.exec = Jvm.exec) (hX : rm_X D cA sz ext L ys s) : rm_KR p l e R s m args below meth c Q nL sz ext cA D .baload 1 rm_bald := by
  intro q r hd hf _ _ K ls H locs hl hR hS
  unfold rm_bald at hf
  split at hf
  · rename_i i a st hst
    split at hf
    · rename_i n f ho
      split at hf
      · rename_i hi
        cases hf
        have h9 : va_at D vwCl (sz + a, rm_c sz ext cA (.inl (3, n, .inl f))) H := hR.2 _ _ (rm_arr_ok ho)
        have hk := K ls H locs hl hR hS
        rw [hst]
        exact va_bald (D := D) (cl := vwCl) (f := f) hx rfl hX.1 (rm_oneP h9) 0 3 rfl (rm_tys_at rfl) (rm_in_ok hi) hd hk
      · cases hf
    · rename_i n f ho
      split at hf
      · rename_i hi
        cases hf
        have h9 : va_at D vwCl (sz + a, rm_c sz ext cA (.inl (4, n, .inl f))) H := hR.2 _ _ (rm_arr_ok ho)
        have hk := K ls H locs hl hR hS
        rw [hst]
        exact va_zald (D := D) (cl := vwCl) (f := f) hx rfl hX.1 (rm_oneP h9) 0 4 rfl (rm_tys_at rfl) (rm_in_ok hi) hd hk
      · cases hf
    · cases hf
  · rename_i i n st hst
    split at hf
    · rename_i hn
      split at hf
      · rename_i hi
        cases hf
        obtain ⟨t, ht, rfl, e9⟩ := rm_t3 hn
        have hk := K ls H locs hl hR hS
        dsimp only at hk
        rw [e9] at hi hk
        obtain ⟨-, -, -, hv⟩ := hX.2.2.2.2.2.2.1.1 t ht
        obtain ⟨cell, g1, g2, g3, g4, g5, g6, g7⟩ := hv.kept (rm_hq hS)
        have hin := rm_in_ok hi
        have hlt : i.toNatClampNeg < rm_sN.getD t 0 := Nat.not_le.mp fun z => hin (Or.inr z)
        rw [hst]
        exact W.bald (v := .int ((rm_sB.getD t []).getD i.toNatClampNeg 0)) hx rfl g1 g2 g3 (fun z => hin (z.imp id (fun z => Nat.le_trans (by exact g4) z))) (g6 _ hlt) rfl rfl hd hk
      · cases hf
    · cases hf
  · cases hf
theorem rm_rf_map (sz : Nat) (ext : Nat → Nat) (x : Option Nat) : rm_v sz ext (va_rf x) = va_rf (x.map (fun k => sz + k)) := by cases x <;> rfl
theorem rm_s_aald (hx : p.tables.exec = Jvm.exec) (hX : rm_X D cA sz ext L ys s) : rm_KR p l e R s m args below meth c Q nL sz ext cA D .aaload 1 rm_aald := by
  intro q r hd hf _ _ K ls H locs hl hR hS
  unfold rm_aald at hf
  split at hf
  · rename_i i a st hst
    split at hf
    · rename_i t n f ho
      split at hf
      · rename_i hi
        cases hf
        simp only [Bool.and_eq_true, decide_eq_true_eq] at hi
        have hk := K ls H locs hl hR hS
        simp only [List.map_cons, rm_rf_map] at hk
        rw [hst]
        have hobj : ∃ C, rm_ts[t]? = some (.object C) := by
          match t, hi.1.2, hi.2 with
          | 5, _, _ => exact ⟨_, rfl⟩
          | 6, _, _ => exact ⟨_, rfl⟩
          | 7, _, _ => exact ⟨_, rfl⟩
        obtain ⟨C, hC⟩ := hobj
        have h9 : va_at D vwCl (sz + a, rm_c sz ext cA (.inl (t, n, .inr (.inr (.inr (.inr f)))))) H := hR.2 _ _ (rm_arr_ok ho)
        exact va_aldq (D := D) (cl := vwCl) (f := fun j => (f j).map (fun k => sz + k)) hx rfl hX.1 (rm_oneP h9) 0 t rfl (rm_tys_at hC) (rm_in_ok hi.1.1) hd hk
      · cases hf
    · cases hf
  · cases hf
theorem rm_s_iast (hx : p.tables.exec = Jvm.exec) (hX : rm_X D cA sz ext L ys s) : rm_KR p l e R s m args below meth c Q nL sz ext cA D .iastore 1 (rm_iast 0 .int) := by
  intro q r hd hf _ _ K ls H locs hl hR hS
  unfold rm_iast at hf
  split at hf
  · rename_i x i a st hst
    split at hf
    · rename_i t n f ho
      split at hf
      · rename_i hi
        cases hf
        simp only [Bool.and_eq_true, decide_eq_true_eq] at hi
        obtain ⟨rfl, hin⟩ := hi
        have h0 := rm_arr_ok ho
        have hat : va_at D vwCl (sz + a, rm_c sz ext cA (.inl (0, n, .inl f))) H := hR.2 _ _ h0
        rw [hst]
        refine W.iast hx rfl hat ((hX.1.2 0 _ rfl).1 n (fun j => .int (f j))) (fun z => by cases z) (by show ¬ (i < 0 ∨ (arrV _ _ _).slots.size ≤ _); rw [arrV_size]; exact rm_in_ok hin) rfl rfl hd fun H1 e1 z1 o1 => ?_
        refine K ls H1 _ hl (hR.set h0 ?_ z1 o1) (hS.put (Nat.le_add_right sz a) o1)
        show H1[sz + a]? = some (vp_cell _ _)
        rw [e1]
        show some ((vp_cell (cA 0) (n, .inl f)).setSlot _ _) = some (vp_cell (cA 0) (n, .inl (upd f i.toNatClampNeg (vp_nar .int x))))
        rw [vp_cell_i, vp_cell_i, arrV_store]
        congr 2
        funext z
        by_cases hq : z = i.toNatClampNeg
        · subst hq
          simp [updV, upd, vp_nar]
          try rfl
        · simp [updV, upd, hq]
      · cases hf
    · cases hf
  · cases hf
theorem rm_s_cast (hx : p.tables.exec = Jvm.exec) (hX : rm_X D cA sz ext L ys s) : rm_KR p l e R s m args below meth c Q nL sz ext cA D .castore 1 (rm_iast 2 .char) := by
  intro q r hd hf _ _ K ls H locs hl hR hS
  unfold rm_iast at hf
  split at hf
  · rename_i x i a st hst
    split at hf
    · rename_i t n f ho
      split at hf
      · rename_i hi
        cases hf
        simp only [Bool.and_eq_true, decide_eq_true_eq] at hi
        obtain ⟨rfl, hin⟩ := hi
        have h0 := rm_arr_ok ho
        have hat : va_at D vwCl (sz + a, rm_c sz ext cA (.inl (2, n, .inl f))) H := hR.2 _ _ h0
        rw [hst]
        refine W.cast hx rfl hat ((hX.1.2 2 _ rfl).1 n (fun j => .int (f j))) (fun z => by cases z) (by show ¬ (i < 0 ∨ (arrV _ _ _).slots.size ≤ _); rw [arrV_size]; exact rm_in_ok hin) rfl rfl hd fun H1 e1 z1 o1 => ?_
        refine K ls H1 _ hl (hR.set h0 ?_ z1 o1) (hS.put (Nat.le_add_right sz a) o1)
        show H1[sz + a]? = some (vp_cell _ _)
        rw [e1]
        show some ((vp_cell (cA 2) (n, .inl f)).setSlot _ _) = some (vp_cell (cA 2) (n, .inl (upd f i.toNatClampNeg (vp_nar .char x))))
        rw [vp_cell_i, vp_cell_i, arrV_store]
        congr 2
        funext z
        by_cases hq : z = i.toNatClampNeg
        · subst hq
          simp [updV, upd, vp_nar]
          try rfl
        · simp [updV, upd, hq]
      · cases hf
    · cases hf
  · cases hf
theorem rm_s_bastB (hx : p.tables.exec = Jvm.exec) (hX : rm_X D cA sz ext L ys s) : rm_KR p l e R s m args below meth c Q nL sz ext cA D .bastore 1 (rm_iast 3 .byte) := by
  intro q r hd hf _ _ K ls H locs hl hR hS
  unfold rm_iast at hf
  split at hf
  · rename_i x i a st hst
    split at hf
    · rename_i t n f ho
      split at hf
      · rename_i hi
        cases hf
        simp only [Bool.and_eq_true, decide_eq_true_eq] at hi
        obtain ⟨rfl, hin⟩ := hi
        have h0 := rm_arr_ok ho
        have hat : va_at D vwCl (sz + a, rm_c sz ext cA (.inl (3, n, .inl f))) H := hR.2 _ _ h0
        rw [hst]
        refine W.bast hx rfl hat ((hX.1.2 3 _ rfl).1 n (fun j => .int (f j))) (fun z => by cases z) (by show ¬ (i < 0 ∨ (arrV _ _ _).slots.size ≤ _); rw [arrV_size]; exact rm_in_ok hin) rfl rfl hd fun H1 e1 z1 o1 => ?_
        refine K ls H1 _ hl (hR.set h0 ?_ z1 o1) (hS.put (Nat.le_add_right sz a) o1)
        show H1[sz + a]? = some (vp_cell _ _)
        rw [e1]
        show some ((vp_cell (cA 3) (n, .inl f)).setSlot _ _) = some (vp_cell (cA 3) (n, .inl (upd f i.toNatClampNeg (vp_nar .byte x))))
        rw [vp_cell_i, vp_cell_i, arrV_store]
        congr 2
        funext z
        by_cases hq : z = i.toNatClampNeg
        · subst hq
          simp [updV, upd, vp_nar]
          try rfl
        · simp [updV, upd, hq]
      · cases hf
    · cases hf
  · cases hf
theorem rm_s_bastZ (hx : p.tables.exec = Jvm.exec) (hX : rm_X D cA sz ext L ys s) : rm_KR p l e R s m args below meth c Q nL sz ext cA D .bastore 1 (rm_iast 4 .boolean) := by
  intro q r hd hf _ _ K ls H locs hl hR hS
  unfold rm_iast at hf
  split at hf
  · rename_i x i a st hst
    split at hf
    · rename_i t n f ho
      split at hf
      · rename_i hi
        cases hf
        simp only [Bool.and_eq_true, decide_eq_true_eq] at hi
        obtain ⟨rfl, hin⟩ := hi
        have h0 := rm_arr_ok ho
        have hat : va_at D vwCl (sz + a, rm_c sz ext cA (.inl (4, n, .inl f))) H := hR.2 _ _ h0
        rw [hst]
        refine W.zast hx rfl hat ((hX.1.2 4 _ rfl).1 n (fun j => .int (f j))) (fun z => by cases z) (by show ¬ (i < 0 ∨ (arrV _ _ _).slots.size ≤ _); rw [arrV_size]; exact rm_in_ok hin) rfl rfl hd fun H1 e1 z1 o1 => ?_
        refine K ls H1 _ hl (hR.set h0 ?_ z1 o1) (hS.put (Nat.le_add_right sz a) o1)
        show H1[sz + a]? = some (vp_cell _ _)
        rw [e1]
        show some ((vp_cell (cA 4) (n, .inl f)).setSlot _ _) = some (vp_cell (cA 4) (n, .inl (upd f i.toNatClampNeg (vp_nar .boolean x))))
        rw [vp_cell_i, vp_cell_i, arrV_store]
        congr 2
        funext z
        by_cases hq : z = i.toNatClampNeg
        · subst hq
          simp [updV, upd, vp_nar]
          try rfl
        · simp [updV, upd, hq]
      · cases hf
    · cases hf
  · cases hf
theorem rm_s_bast (hx : p.tables.exec = Jvm.exec) (hX : rm_X D cA sz ext L ys s) : rm_KR p l e R s m args below meth c Q nL sz ext cA D .bastore 1 rm_bast := by
  intro q r hd hf h1 h2 K
  unfold rm_bast at hf
  split at hf
  · split at hf
    · exact rm_s_bastB hx hX q r hd hf h1 h2 K
    · exact rm_s_bastZ hx hX q r hd hf h1 h2 K
    · cases hf
  · cases hf
theorem rm_s_last (hx : p.tables.exec = Jvm.exec) (hX : rm_X D cA sz ext L ys s) : rm_KR p l e R s m args below meth c Q nL sz ext cA D .lastore 1 rm_last := by
  intro q r hd hf _ _ K ls H locs hl hR hS
  unfold rm_last at hf
  split at hf
  · rename_i x i a st hst
    split at hf
    · rename_i t n f ho
      split at hf
      · rename_i hi
        cases hf
        simp only [Bool.and_eq_true, decide_eq_true_eq] at hi
        obtain ⟨rfl, hin⟩ := hi
        have h0 := rm_arr_ok ho
        have hat : va_at D vwCl (sz + a, rm_c sz ext cA (.inl (1, n, .inr (.inl f)))) H := hR.2 _ _ h0
        rw [hst]
        refine W.last hx rfl hat ((hX.1.2 1 _ rfl).1 n (fun j => .long (f j))) (fun z => by cases z) (by show ¬ (i < 0 ∨ (arrV _ _ _).slots.size ≤ _); rw [arrV_size]; exact rm_in_ok hin) rfl rfl hd fun H1 e1 z1 o1 => ?_
        refine K ls H1 _ hl (hR.set h0 ?_ z1 o1) (hS.put (Nat.le_add_right sz a) o1)
        show H1[sz + a]? = some (vp_cell _ _)
        rw [e1]
        show some ((vp_cell (cA 1) (n, .inr (.inl f))).setSlot _ _) = some (vp_cell (cA 1) (n, .inr (.inl (vp_updL f i.toNatClampNeg x))))
        rw [vp_cell_l, vp_cell_l, arrV_store]
        congr 2
        funext z
        by_cases hq : z = i.toNatClampNeg
        · subst hq
          simp [updV, vp_updL]
          try rfl
        · simp [updV, vp_updL, hq]
      · cases hf
    · cases hf
  · cases hf
theorem rm_s_aast (hx : p.tables.exec = Jvm.exec) (hX : rm_X D cA sz ext L ys s) : rm_KR p l e R s m args below meth c Q nL sz ext cA D .aastore 1 rm_aast := by
  intro q r hd hf _ _ K ls H locs hl hR hS
  unfold rm_aast at hf
  split at hf
  · rename_i v i a st hst
    split at hf
    · rename_i t n f o ho hv
      split at hf
      · rename_i hi
        cases hf
        simp only [Bool.and_eq_true, decide_eq_true_eq] at hi
        obtain ⟨ci, fs⟩ := o
        have h0 := rm_arr_ok ho
        obtain ⟨q9, hq9, cellV, g1, g2, g3, -⟩ := hR.2 _ _ (rm_obj_ok hv)
        have hin := rm_in_ok hi.1
        have hlt : i.toNatClampNeg < n := Nat.not_le.mp fun z => hin (Or.inr z)
        have hneg : ¬ i < 0 := fun z => hin (Or.inl z)
        have hcls := (hX.1.1 ci q9 hq9).2
        have hrt : rm_ts[t]? = some (.object q9.1) := by
          have h2 := hi.2
          unfold rm_tc at h2
          split at h2 <;> first | (cases h2; cases hq9; rfl) | cases h2
        obtain ⟨kA, comp, k1, k2, k3, -⟩ := (hX.1.2 t _ (rm_tys_at hrt)).2
        have hcomp : comp = D.1 ci := Option.some.inj (k3.symm.trans hcls.1)
        subst hcomp
        have hcls2 := hcls
        obtain ⟨kC, hkC, -⟩ := hcls.2
        rw [hst]
        refine W.aast hx rfl (hR.2 _ _ h0) (fun z h => by cases h) (fun h => by cases h) k1 k2 rfl hkC ⟨hneg, by show _ < (arrV _ _ _).slots.size; rw [arrV_size]; exact hlt⟩ g1 (fun z h => by rw [g3] at h; cases h) (by rw [g2]; exact hkC) (by rw [g2]; exact va_assign hcls2) rfl rfl hd fun H1 e1 z1 o1 => ?_
        refine K ls H1 _ hl (hR.set h0 ?_ z1 o1) (hS.put (Nat.le_add_right sz a) o1)
        show H1[sz + a]? = some (vp_cell _ _)
        rw [e1]
        show some ((vp_cell (cA t) (n, .inr (.inr (.inr (.inr (fun j => (f j).map (fun k => sz + k))))))).setSlot _ _) = some (vp_cell (cA t) (n, .inr (.inr (.inr (.inr (fun j => (va_up f i.toNatClampNeg (some v) j).map (fun k => sz + k)))))))
        rw [vp_cell_q, vp_cell_q, arrV_store]
        congr 2
        funext z
        by_cases hq : z = i.toNatClampNeg
        · subst hq
          simp [updV, va_up, va_rf]
        · simp [updV, va_up, hq]
      · cases hf
    · cases hf
  · cases hf
theorem rm_nn {z : Int32} (hz : ¬ z < 0) : z.toInt = (z.toNatClampNeg : Int) := by
  have hz0 : (0 : Int) ≤ z.toInt := by
    have := Int32.not_lt.mp hz
    simpa using Int32.le_iff_toInt_le.mp this
  show z.toInt = ((z.toInt.toNat : Nat) : Int)
  omega
theorem rm_s_acopy (hx : p.tables.exec = Jvm.exec) (hml : c.maxLocals = nL) (hts : ∀ w ∈ rm_tb, w.before args s = true) (hX : rm_X D cA sz ext L ys s) (hown : s.vm.findClass own = some m.cls) {i : Nat} (k1 : Cond.methodLink own i arraycopyName ∈ rm_tb) (k2 : Cond.native arraycopyName ∈ rm_tb) (k3 : Cond.static arraycopyName ∈ rm_tb) (k4 : Cond.initialized "java/lang/System" ∈ rm_tb) (hfr : 1 ≤ R.frames) (hlo : 64 ≤ R.locals) : rm_KR p l e R s m args below meth c Q nL sz ext cA D (.invokestatic i) 3 rm_acopy := by
  intro q r hd hf _ _ K ls H locs hl hR hS
  unfold rm_acopy at hf
  split at hf
  · rename_i n dp b sp a st hst
    split at hf
    · rename_i n0 f n1 g ho0 ho1
      split at hf
      · rename_i hc
        cases hf
        obtain ⟨⟨h1, h2, h3⟩, h4, h5, h6⟩ := hc
        have hc0 : H[sz + a]? = some (vp_cell (cA 0) (n0, .inl f)) := hR.2 _ _ (rm_arr_ok ho0)
        have hc1 : H[sz + b]? = some (vp_cell (cA 0) (n1, .inl g)) := hR.2 _ _ (rm_arr_ok ho1)
        rw [hst]
        intro T hT X
        obtain ⟨-, k0, hk0, cm0, hkk0⟩ := (hX.1.2 0 _ rfl).1 n0 (fun j => .int (f j))
        obtain ⟨-, k9, hk9, cm9, hkk9⟩ := (hX.1.2 0 _ rfl).1 n1 (fun j => .int (g j))
        obtain ⟨vm', X', step⟩ := X.arraycopy hx hown (hts _ k1) (hts _ k2) (hts _ k3) (hts _ k4) (src := sz + a) (dst := sz + b) (cs := vp_cell (cA 0) (n0, .inl f)) (cd := vp_cell (cA 0) (n1, .inl g)) (srcPos := sp) (destPos := dp) (n := n) (by rw [hT]; exact hc0) (by rw [hT]; exact hc1)
          (fun _ h => by cases h) (fun _ h => by cases h) (fun h => by cases h) (fun h => by cases h) hk0 hk9 hkk0 hkk9 (by simp [refKind]) h1 h2 h3
          (by rw [rm_nn h1, rm_nn h3]; show ¬ _ > ((arrV (cA 0) n0 (fun j => .int (f j))).slots.size : Int); rw [arrV_size]; omega)
          (by rw [rm_nn h2, rm_nn h3]; show ¬ _ > ((arrV (cA 0) n1 (fun j => .int (g j))).slots.size : Int); rw [arrV_size]; omega)
          (fun vm₁ _ i hi => by
            have e : (vp_cell (cA 0) (n0, .inl f)).slots.getD (sp.toNatClampNeg + i) .null = .int (f (sp.toNatClampNeg + i)) := by
              show (arrV (cA 0) n0 (fun j => .int (f j))).slots.getD _ _ = _
              rw [Array.getD_eq_getD_getElem?, arrV_read _ _ (by omega)]
              rfl
            refine ⟨?_, ?_⟩
            · rw [e]
              rfl
            · rw [e]
              exact trivial)
          (g := F0 m q.1 ls (.int n :: .int dp :: .ref (sz + b) :: .int sp :: .ref (sz + a) :: st.map (rm_v sz ext))) rfl (by rw [hml]; exact hl.1) (rest := st.map (rm_v sz ext)) rfl hd hfr (by
            show 2 * 0 + _ + _ ≤ _
            have z : ((st.map (rm_v sz ext)).map fun v => v.category).sum = (st.map fun v => v.category).sum := by
              rw [List.map_map]
              congr 2
              funext v
              exact rm_v_cat sz ext v
            rw [z]
            show 2 * 0 + _ + (5 + 2 + 11) ≤ _
            omega)
        have e1 : copied (vp_cell (cA 0) (n0, .inl f)) (vp_cell (cA 0) (n1, .inl g)) sp dp n = vp_cell (cA 0) (n1, .inl (va_cpy f g sp.toNatClampNeg dp.toNatClampNeg n.toNatClampNeg)) := va_copied (fun z => .int z) (cA 0) (cA 0) f g h4
        rw [e1] at X' step
        have hl9 : sz + b < H.size := (Array.getElem?_eq_some_iff.mp hc1).1
        have hheap : ((T.setVm vm').setCell (sz + b) (vp_cell (cA 0) (n1, .inl (va_cpy f g sp.toNatClampNeg dp.toNatClampNeg n.toNatClampNeg)))).heap = H.setIfInBounds (sz + b) (vp_cell (cA 0) (n1, .inl (va_cpy f g sp.toNatClampNeg dp.toNatClampNeg n.toNatClampNeg))) := by rw [← hT]; rfl
        have oq : ∀ q : Nat, q ≠ sz + b → (H.setIfInBounds (sz + b) (vp_cell (cA 0) (n1, .inl (va_cpy f g sp.toNatClampNeg dp.toNatClampNeg n.toNatClampNeg))))[q]? = H[q]? := fun q hq => by simp [Array.getElem?_setIfInBounds, Ne.symm hq]
        obtain ⟨t, a1, b1⟩ := K ls _ _ hl (hR.set (c1 := .inl (0, n1, .inl (va_cpy f g sp.toNatClampNeg dp.toNatClampNeg n.toNatClampNeg))) (rm_arr_ok ho1) (show (H.setIfInBounds (sz + b) _)[sz + b]? = some _ by simp [Array.getElem?_setIfInBounds, hl9]; rfl) (by simp) oq) ⟨fun q hq => by
            rw [oq q (fun e => by omega)]
            exact hS.1 q hq, fun q hq => by
            rcases List.mem_append.mp hq with h | h
            · exact hS.2 q h
            · obtain ⟨z, -, hz⟩ := List.mem_map.mp h
              rw [← hz]
              exact Nat.le_add_right sz b⟩ _ hheap X'
        exact ⟨t, step t a1, b1⟩
      · cases hf
    · cases hf
  · cases hf
end RMQ
