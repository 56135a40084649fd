/-! WHOLE NUMBERS: READS AND WRITES OF CELLS -/
section IMH
variable {G : List im_D}
theorem im_cv0 (x : Int) : im_cv (0, x) = .int (Int32.ofInt x) := rfl
theorem im_cv1 (x : Int) : im_cv (1, x) = .long (Int64.ofInt x) := rfl
theorem im_cv2 (x : Int) : im_cv (2, x) = .ref x.toNat := rfl
theorem im_cv4 (x : Int) : im_cv (4, x) = .retAddr x.toNat := rfl
/-- a field's number as a value -/
def im_fo (t : Nat) (x : Int) : Option im_V := if t = 1 then (if im_iJ x then some (1, x) else none) else if t = 3 then (if x < 0 then some (3, 0) else some (2, x)) else (if im_iI x then some (0, x) else none)
theorem im_fo_ok {t : Nat} {x : Int} {v : im_V} (h : im_fo t x = some v) : im_fv t x = im_cv v ∧ im_ok v = true := by
  unfold im_fo at h
  unfold im_fv
  split at h
  · rename_i e
    split at h
    · rename_i hx; cases h; exact ⟨by rw [if_pos e]; rfl, hx⟩
    · cases h
  · rename_i e
    rw [if_neg e]
    split at h
    · rename_i e3
      rw [if_pos e3]
      split at h
      · rename_i hx; cases h; exact ⟨by rw [if_pos hx]; rfl, rfl⟩
      · rename_i hx; cases h; exact ⟨by rw [if_neg hx]; rfl, by simp [im_ok]; omega⟩
    · rename_i e3
      rw [if_neg e3]
      split at h
      · rename_i hx; cases h; exact ⟨rfl, hx⟩
      · cases h
def im_getf (G : List im_D) (k : Option (Nat × Nat × Nat × Nat)) (q : im_N) : Option im_N := match k, q.2.2.1 with
  | some (0, ci, f, _), (2, a) :: r => match G[a.toNat]? with
    | some (0, ci', tys) => if ci' = ci then (match tys[f]? with
      | some t => (match im_fo t (q.2.2.2.1 a.toNat f) with
        | some v => some (q.1 + 3, q.2.1, v :: r, q.2.2.2)
        | none => none)
      | none => none) else none
    | _ => none
  | some (7, 0, _, _), (4, n) :: r => if n = 2 ∨ n = 4 then some (q.1 + 3, q.2.1, (4, n + 1) :: r, q.2.2.2) else none
  | some (7, _ + 1, _, _), (4, n) :: r => if n = 2 ∨ n = 4 then some (q.1 + 3, q.2.1, (0, 0) :: r, q.2.2.2) else none
  | _, _ => none
theorem im_obj_c {s : im_S} {a ci : Nat} {tys : List Nat} (h : G[a]? = some (0, ci, tys)) : rm_obj (im_ch G s) a = some (ci, tys.mapIdx (fun f t => im_fv t (s.1 a f))) := by
  unfold rm_obj
  rw [im_ch_get, h]
  rfl
theorem im_arr_c {s : im_S} {a t n : Nat} {z : List Nat} (h : G[a]? = some (t + 1, n, z)) : rm_arr (im_ch G s) a = some (t, n, im_row t (s.2 a)) := by
  unfold rm_arr
  rw [im_ch_get, h]
  rfl
theorem im_getf_s {k : Option (Nat × Nat × Nat × Nat)} : im_sim G (rm_getfA k) (im_getf G k) := by
  intro q r hw hf
  unfold im_getf at hf
  split at hf
  · rename_i ci f z a st hst
    split at hf
    · rename_i ci' tys hG
      split at hf
      · rename_i hci
        subst hci
        split at hf
        · rename_i t ht
          split at hf
          · rename_i v hv
            cases hf
            have hw2 := hw.2
            rw [hst] at hw2
            obtain ⟨e1, e2⟩ := im_fo_ok hv
            refine ⟨?_, hw.1, im_ok_cons e2 (im_ok_tail hw2).2⟩
            simp only [rm_getfA, rm_getf, im_c, hst, List.map_cons, im_cv0, im_cv1, im_cv2, im_cv4]
            rw [im_obj_c hG]
            simp [ht, e1]
          · cases hf
        · cases hf
      · cases hf
    · cases hf
  · rename_i z1 z2 n st hst
    split at hf
    · rename_i hn
      cases hf
      have hw2 := hw.2
      rw [hst] at hw2
      refine ⟨?_, hw.1, im_ok_cons ?_ (im_ok_tail hw2).2⟩
      · rcases hn with rfl | rfl
        · simp [rm_getfA, im_c, hst, im_cv0, im_cv1, im_cv2, im_cv4]
        · simp [rm_getfA, im_c, hst, im_cv0, im_cv1, im_cv2, im_cv4]
      · rcases hn with rfl | rfl <;> rfl
    · cases hf
  · rename_i z0 z1 z2 n st hst
    split at hf
    · rename_i hn
      cases hf
      have hw2 := hw.2
      rw [hst] at hw2
      refine ⟨?_, hw.1, im_ok_cons rfl (im_ok_tail hw2).2⟩
      rcases hn with rfl | rfl
      · simp [rm_getfA, im_c, hst, im_cv0, im_cv1, im_cv2, im_cv4]
      · simp [rm_getfA, im_c, hst, im_cv0, im_cv1, im_cv2, im_cv4]
    · cases hf
  · cases hf
/-- whether a value's tag is that of a field's kind -/
def im_tg (t : Nat) (v : im_V) : Bool := if t = 1 then v.1 == 1 else if t = 3 then v.1 == 2 else v.1 == 0
theorem im_tg_ok {t : Nat} {v : im_V} (h : im_tg t v = true) (hv : im_ok v = true) : im_fv t v.2 = im_cv v := by
  obtain ⟨k, x⟩ := v
  unfold im_tg at h
  unfold im_fv
  split at h
  · rename_i e
    have h : k = 1 := by simpa using h
    subst h
    rw [if_pos e]; rfl
  · rename_i e
    rw [if_neg e]
    split at h
    · rename_i e3
      have h : k = 2 := by simpa using h
      subst h
      have hx : 0 ≤ x := by simpa [im_ok] using hv
      rw [if_pos e3, if_neg (by show ¬ x < 0; omega)]; rfl
    · rename_i e3
      have h : k = 0 := by simpa using h
      subst h
      rw [if_neg e3]; rfl
def im_up (f : Nat → Nat → Int) (a k : Nat) (x : Int) : Nat → Nat → Int := fun b j => if b = a ∧ j = k then x else f b j
theorem im_up_same (f : Nat → Nat → Int) (a k : Nat) (x : Int) : im_up f a k x a k = x := by simp [im_up]
theorem im_up_ne {f : Nat → Nat → Int} {a k b j : Nat} {x : Int} (h : ¬ (b = a ∧ j = k)) : im_up f a k x b j = f b j := by simp [im_up, h]
theorem im_cell_other1 {s : im_S} {a k b : Nat} {x : Int} {e : im_D} (h : b ≠ a) : im_cell e b (im_up s.1 a k x, s.2) = im_cell e b s := by
  obtain ⟨t, n, z⟩ := e
  cases t with
  | zero =>
    show Sum.inr (n, _) = Sum.inr (n, _)
    congr 3
    funext f t
    show im_fv t (im_up s.1 a k x b f) = _
    rw [im_up_ne (fun q => h q.1)]
  | succ t => rfl
theorem im_cell_other2 {s : im_S} {a k b : Nat} {x : Int} {e : im_D} (h : b ≠ a) : im_cell e b (s.1, im_up s.2 a k x) = im_cell e b s := by
  obtain ⟨t, n, z⟩ := e
  cases t with
  | zero => rfl
  | succ t =>
    show Sum.inl (t, n, im_row t (im_up s.2 a k x b)) = Sum.inl (t, n, im_row t (s.2 b))
    have : im_up s.2 a k x b = s.2 b := by
      funext j
      exact im_up_ne (fun q => h q.1)
    rw [this]
def im_putf (G : List im_D) (k : Option (Nat × Nat × Nat × Nat)) (q : im_N) : Option im_N := match k, q.2.2.1 with
  | some (0, ci, f, _), v :: (2, a) :: r => match G[a.toNat]? with
    | some (0, ci', tys) => if decide (ci' = ci) && rm_fit (rm_ft ci f) (im_cv v) && !(rm_fin ci f) then (match tys[f]? with
      | some t => if im_tg t v then some (q.1 + 3, q.2.1, r, im_up q.2.2.2.1 a.toNat f v.2, q.2.2.2.2) else none
      | none => none) else none
    | _ => none
  | _, _ => none
theorem im_putf_s {ini : Bool} {oc : Nat} {k : Option (Nat × Nat × Nat × Nat)} : im_sim G (rm_putfA ini oc k) (im_putf G k) := by
  intro q r hw hf
  unfold im_putf at hf
  split at hf
  · rename_i ci f w9 v a st hst
    split at hf
    · rename_i ci' tys hG
      split at hf
      · rename_i hc
        simp only [Bool.and_eq_true, decide_eq_true_eq, Bool.not_eq_true'] at hc
        obtain ⟨⟨rfl, hfit⟩, hfin⟩ := hc
        split at hf
        · rename_i t ht
          split at hf
          · rename_i htg
            cases hf
            have hw2 := hw.2
            rw [hst] at hw2
            obtain ⟨hv, hw3⟩ := im_ok_tail hw2
            refine ⟨?_, hw.1, (im_ok_tail hw3).2⟩
            have hlen : f < tys.length := (List.getElem?_eq_some_iff.mp ht).1
            have e1 : (im_ch G q.2.2.2).set a.toNat (.inr (ci', (tys.mapIdx (fun f t => im_fv t (q.2.2.2.1 a.toNat f))).set f (im_cv v))) = im_ch G (im_up q.2.2.2.1 a.toNat f v.2, q.2.2.2.2) := by
              refine im_ch_set hG ?_ (fun b e hb => im_cell_other1 hb)
              show Sum.inr (ci', _) = Sum.inr (ci', _)
              congr 2
              apply List.ext_getElem?
              intro j
              by_cases ej : j = f
              · subst ej
                rw [List.getElem?_set_self (by rw [List.length_mapIdx]; exact hlen), List.getElem?_mapIdx, ht]
                show some (im_fv t (im_up q.2.2.2.1 a.toNat j v.2 a.toNat j)) = _
                rw [im_up_same, im_tg_ok htg hv]
              · rw [List.getElem?_set_ne (Ne.symm ej), List.getElem?_mapIdx, List.getElem?_mapIdx]
                cases tys[j]? with
                | none => rfl
                | some u =>
                  show some (im_fv u (im_up q.2.2.2.1 a.toNat f v.2 a.toNat j)) = some (im_fv u (q.2.2.2.1 a.toNat j))
                  rw [im_up_ne (fun z => ej z.2)]
            cases w9 with
            | zero =>
              show rm_putf ini oc _ _ = _
              simp only [rm_putf, im_c, hst, List.map_cons, im_cv0, im_cv1, im_cv2, im_cv4]
              rw [im_obj_c hG]
              simp only []
              rw [e1]
              simp [hfit, hfin, hlen]
            | succ w9 =>
              show rm_putfN _ _ = _
              simp only [rm_putfN, im_c, hst, List.map_cons, im_cv0, im_cv1, im_cv2, im_cv4]
              rw [im_obj_c hG]
              simp only []
              rw [e1]
              simp [hfit, hfin, hlen]
          · cases hf
        · cases hf
      · cases hf
    · cases hf
  · cases hf
def im_alen (G : List im_D) (L : Nat) (q : im_N) : Option im_N := match q.2.2.1 with
  | (2, a) :: r => match G[a.toNat]? with
    | some (t + 1, n, _) => if t < 8 then some (q.1 + 1, q.2.1, (0, (Int32.ofNat n).toInt) :: r, q.2.2.2) else none
    | _ => none
  | (4, n) :: r => match rm_xl L n.toNat with
    | some k => some (q.1 + 1, q.2.1, (0, (Int32.ofNat k).toInt) :: r, q.2.2.2)
    | none => none
  | _ => none
theorem im_alen_s {L : Nat} : im_sim G (rm_alen L) (im_alen G L) := by
  intro q r hw hf
  unfold im_alen at hf
  split at hf
  · rename_i a st hst
    split at hf
    · rename_i t n z hG
      split at hf
      · rename_i ht
        cases hf
        have hw2 := hw.2
        rw [hst] at hw2
        refine ⟨?_, hw.1, im_ok_cons (im_of32 _) (im_ok_tail hw2).2⟩
        simp only [rm_alen, im_c, hst, List.map_cons, im_cv0, im_cv1, im_cv2, im_cv4]
        rw [im_arr_c hG]
        simp [ht, -Int32.toInt_ofNat']
      · cases hf
    · cases hf
  · rename_i n st hst
    split at hf
    · rename_i k hk
      cases hf
      have hw2 := hw.2
      rw [hst] at hw2
      refine ⟨?_, hw.1, im_ok_cons (im_of32 _) (im_ok_tail hw2).2⟩
      simp only [rm_alen, im_c, hst, List.map_cons, im_cv0, im_cv1, im_cv2, im_cv4]
      rw [hk]
      simp [-Int32.toInt_ofNat']
    · cases hf
  · cases hf
def im_in (i : Int) (n : Nat) : Bool := decide (0 ≤ i) && decide (i < n)
theorem im_in_c {i : Int} {n : Nat} (hi : im_iI i = true) (h : im_in i n = true) : rm_in (Int32.ofInt i) n = true ∧ (Int32.ofInt i).toNatClampNeg = i.toNat := by
  unfold im_in at h
  simp only [Bool.and_eq_true, decide_eq_true_eq] at h
  unfold im_iI at hi
  simp only [Bool.and_eq_true, decide_eq_true_eq] at hi
  have e : (Int32.ofInt i).toNatClampNeg = i.toNat := Int32.toNatClampNeg_ofInt_of_le (by omega) (by omega)
  have e2 : ¬ Int32.ofInt i < 0 := by
    rw [Int32.lt_iff_toInt_lt, Int32.toInt_ofInt_of_le (by omega) (by omega)]
    show ¬ i < 0
    omega
  refine ⟨?_, e⟩
  unfold rm_in
  rw [e]
  simp only [Bool.and_eq_true, Bool.not_eq_true', decide_eq_false_iff_not, decide_eq_true_eq]
  exact ⟨e2, by omega⟩
def im_iald (G : List im_D) (L : Nat) (ys : Nat → Int32) (q : im_N) : Option im_N := match q.2.2.1 with
  | (0, i) :: (2, a) :: r => match G[a.toNat]? with
    | some (1, n, _) => if im_in i n && im_iI (q.2.2.2.2 a.toNat i.toNat) then some (q.1 + 1, q.2.1, (0, q.2.2.2.2 a.toNat i.toNat) :: r, q.2.2.2) else none
    | _ => none
  | (0, i) :: (4, n) :: r => if n = 0 then (if im_in i L && decide (L ≠ 1000000) then some (q.1 + 1, q.2.1, (0, (ys i.toNat).toInt) :: r, q.2.2.2) else none) else if n = 6 then (if im_in i rm_zN then some (q.1 + 1, q.2.1, (0, (rm_zV.getD i.toNat 0).toInt) :: r, q.2.2.2) else none) else none
  | _ => none
theorem im_iald_s {L : Nat} {ys : Nat → Int32} : im_sim G (rm_iald L ys) (im_iald G L ys) := by
  intro q r hw hf
  unfold im_iald at hf
  split at hf
  · rename_i i a st hst
    have hw2 := hw.2
    rw [hst] at hw2
    split at hf
    · rename_i n z hG
      split at hf
      · rename_i hc
        cases hf
        simp only [Bool.and_eq_true] at hc
        obtain ⟨e1, e2⟩ := im_in_c (im_ok_tail hw2).1 hc.1
        refine ⟨?_, hw.1, im_ok_cons hc.2 (im_ok_tail (im_ok_tail hw2).2).2⟩
        simp only [rm_iald, im_c, hst, List.map_cons, im_cv0, im_cv1, im_cv2, im_cv4]
        rw [im_arr_c (t := 0) hG]
        show (if rm_in (Int32.ofInt i) n then _ else _) = _
        rw [if_pos e1, e2]
      · cases hf
    · cases hf
  · rename_i i n st hst
    have hw2 := hw.2
    rw [hst] at hw2
    split at hf
    · rename_i hn
      subst hn
      split at hf
      · rename_i hc
        cases hf
        simp only [Bool.and_eq_true] at hc
        obtain ⟨e1, e2⟩ := im_in_c (im_ok_tail hw2).1 hc.1
        refine ⟨?_, hw.1, im_ok_cons (im_of32 _) (im_ok_tail (im_ok_tail hw2).2).2⟩
        simp only [rm_iald, im_c, hst, List.map_cons, im_cv0, im_cv1, im_cv2, im_cv4, e1, e2, hc.2, Int32.ofInt_toInt]
        rfl
      · cases hf
    · split at hf
      · rename_i hn
        subst hn
        split at hf
        · rename_i hc
          cases hf
          obtain ⟨e1, e2⟩ := im_in_c (im_ok_tail hw2).1 hc
          refine ⟨?_, hw.1, im_ok_cons (im_of32 _) (im_ok_tail (im_ok_tail hw2).2).2⟩
          simp only [rm_iald, im_c, hst, List.map_cons, im_cv0, im_cv1, im_cv2, im_cv4, e1, e2, Int32.ofInt_toInt]
          rfl
        · cases hf
      · cases hf
  · cases hf
def im_lald (G : List im_D) (q : im_N) : Option im_N := match q.2.2.1 with
  | (0, i) :: (2, a) :: r => match G[a.toNat]? with
    | some (2, n, _) => if im_in i n && im_iJ (q.2.2.2.2 a.toNat i.toNat) then some (q.1 + 1, q.2.1, (1, q.2.2.2.2 a.toNat i.toNat) :: r, q.2.2.2) else none
    | _ => none
  | _ => none
theorem im_lald_s : im_sim G rm_lald (im_lald G) := by
  intro q r hw hf
  unfold im_lald at hf
  split at hf
  · rename_i i a st hst
    have hw2 := hw.2
    rw [hst] at hw2
    split at hf
    · rename_i n z hG
      split at hf
      · rename_i hc
        cases hf
        simp only [Bool.and_eq_true] at hc
        obtain ⟨e1, e2⟩ := im_in_c (im_ok_tail hw2).1 hc.1
        refine ⟨?_, hw.1, im_ok_cons hc.2 (im_ok_tail (im_ok_tail hw2).2).2⟩
        simp only [rm_lald, im_c, hst, List.map_cons, im_cv0, im_cv1, im_cv2, im_cv4]
        rw [im_arr_c (t := 1) hG]
        show (if rm_in (Int32.ofInt i) n then _ else _) = _
        rw [if_pos e1, e2]
      · cases hf
    · cases hf
  · cases hf
def im_cald (G : List im_D) (q : im_N) : Option im_N := match q.2.2.1 with
  | (0, i) :: (2, a) :: r => match G[a.toNat]? with
    | some (3, n, _) => if im_in i n && im_iI (q.2.2.2.2 a.toNat i.toNat) then some (q.1 + 1, q.2.1, (0, q.2.2.2.2 a.toNat i.toNat) :: r, q.2.2.2) else none
    | _ => none
  | _ => none
theorem im_cald_s : im_sim G rm_cald (im_cald G) := by
  intro q r hw hf
  unfold im_cald at hf
  split at hf
  · rename_i i a st hst
    have hw2 := hw.2
    rw [hst] at hw2
    split at hf
    · rename_i n z hG
      split at hf
      · rename_i hc
        cases hf
        simp only [Bool.and_eq_true] at hc
        obtain ⟨e1, e2⟩ := im_in_c (im_ok_tail hw2).1 hc.1
        refine ⟨?_, hw.1, im_ok_cons hc.2 (im_ok_tail (im_ok_tail hw2).2).2⟩
        simp only [rm_cald, im_c, hst, List.map_cons, im_cv0, im_cv1, im_cv2, im_cv4]
        rw [im_arr_c (t := 2) hG]
        show (if rm_in (Int32.ofInt i) n then _ else _) = _
        rw [if_pos e1, e2]
      · cases hf
    · cases hf
  · cases hf
def im_bald (G : List im_D) (q : im_N) : Option im_N := match q.2.2.1 with
  | (0, i) :: (2, a) :: r => match G[a.toNat]? with
    | some (4, n, _) => if im_in i n && im_iI (q.2.2.2.2 a.toNat i.toNat) then some (q.1 + 1, q.2.1, (0, q.2.2.2.2 a.toNat i.toNat) :: r, q.2.2.2) else none
    | some (5, n, _) => if im_in i n && im_iI (q.2.2.2.2 a.toNat i.toNat) then some (q.1 + 1, q.2.1, (0, q.2.2.2.2 a.toNat i.toNat) :: r, q.2.2.2) else none
    | _ => none
  | (0, i) :: (4, n) :: r => if n.toNat = 3 ∨ n.toNat = 5 then (if im_in i (rm_sN.getD ((n.toNat - 3) / 2) 0) then some (q.1 + 1, q.2.1, (0, ((rm_sB.getD ((n.toNat - 3) / 2) []).getD i.toNat 0).toInt) :: r, q.2.2.2) else none) else none
  | _ => none
theorem im_bald_s : im_sim G rm_bald (im_bald G) := by
  intro q r hw hf
  unfold im_bald at hf
  split at hf
  · rename_i i a st hst
    have hw2 := hw.2
    rw [hst] at hw2
    split at hf
    · rename_i n z hG
      split at hf
      · rename_i hc
        cases hf
        simp only [Bool.and_eq_true] at hc
        obtain ⟨e1, e2⟩ := im_in_c (im_ok_tail hw2).1 hc.1
        refine ⟨?_, hw.1, im_ok_cons hc.2 (im_ok_tail (im_ok_tail hw2).2).2⟩
        simp only [rm_bald, im_c, hst, List.map_cons, im_cv0, im_cv1, im_cv2, im_cv4]
        rw [im_arr_c (t := 3) hG]
        show (if rm_in (Int32.ofInt i) n then _ else _) = _
        rw [if_pos e1, e2]
      · cases hf
    · rename_i n z hG
      split at hf
      · rename_i hc
        cases hf
        simp only [Bool.and_eq_true] at hc
        obtain ⟨e1, e2⟩ := im_in_c (im_ok_tail hw2).1 hc.1
        refine ⟨?_, hw.1, im_ok_cons hc.2 (im_ok_tail (im_ok_tail hw2).2).2⟩
        simp only [rm_bald, im_c, hst, List.map_cons, im_cv0, im_cv1, im_cv2, im_cv4]
        rw [im_arr_c (t := 4) hG]
        show (if rm_in (Int32.ofInt i) n then _ else _) = _
        rw [if_pos e1, e2]
      · cases hf
    · cases hf
  · rename_i i n st hst
    have hw2 := hw.2
    rw [hst] at hw2
    split at hf
    · rename_i hn
      split at hf
      · rename_i hc
        cases hf
        obtain ⟨e1, e2⟩ := im_in_c (im_ok_tail hw2).1 hc
        refine ⟨?_, hw.1, im_ok_cons (im_of32 _) (im_ok_tail (im_ok_tail hw2).2).2⟩
        simp only [rm_bald, im_c, hst, List.map_cons, im_cv0, im_cv1, im_cv2, im_cv4, e1, e2, Int32.ofInt_toInt]
        rw [if_pos hn]
        rfl
      · cases hf
    · cases hf
  · cases hf
def im_aald (G : List im_D) (q : im_N) : Option im_N := match q.2.2.1 with
  | (0, i) :: (2, a) :: r => match G[a.toNat]? with
    | some (t + 1, n, _) => if im_in i n && decide (5 ≤ t) && decide (t < 8) then (if q.2.2.2.2 a.toNat i.toNat < 0 then some (q.1 + 1, q.2.1, (3, 0) :: r, q.2.2.2) else some (q.1 + 1, q.2.1, (2, q.2.2.2.2 a.toNat i.toNat) :: r, q.2.2.2)) else none
    | _ => none
  | _ => none
theorem im_row_q {t : Nat} {f : Nat → Int} (h : 5 ≤ t) : im_row t f = .inr (.inr (.inr (.inr (fun i => if f i < 0 then none else some (f i).toNat)))) := by
  unfold im_row
  rw [if_neg (by omega), if_neg (by omega)]
theorem im_aald_s : im_sim G rm_aald (im_aald G) := by
  intro q r hw hf
  unfold im_aald at hf
  split at hf
  · rename_i i a st hst
    have hw2 := hw.2
    rw [hst] at hw2
    split at hf
    · rename_i t n z hG
      split at hf
      · rename_i hc
        simp only [Bool.and_eq_true, decide_eq_true_eq] at hc
        obtain ⟨e1, e2⟩ := im_in_c (im_ok_tail hw2).1 hc.1.1
        have key : rm_aald (im_c G q) = some (q.1 + 1, im_cl q.2.1, va_rf (if q.2.2.2.2 a.toNat i.toNat < 0 then none else some (q.2.2.2.2 a.toNat i.toNat).toNat) :: st.map im_cv, im_ch G q.2.2.2, 0, 0) := by
          simp only [rm_aald, im_c, hst, List.map_cons, im_cv0, im_cv1, im_cv2, im_cv4]
          rw [im_arr_c hG, im_row_q hc.1.2]
          simp [e1, e2, hc.1.2, hc.2]
        split at hf
        · rename_i hx
          cases hf
          refine ⟨?_, hw.1, im_ok_cons rfl (im_ok_tail (im_ok_tail hw2).2).2⟩
          rw [key, if_pos hx]
          rfl
        · rename_i hx
          cases hf
          refine ⟨?_, hw.1, im_ok_cons (by simp [im_ok]; omega) (im_ok_tail (im_ok_tail hw2).2).2⟩
          rw [key, if_neg hx]
          rfl
      · cases hf
    · cases hf
  · cases hf
/-- what a row of ints, chars, bytes, booleans takes -/
def im_fit (t : Nat) (x : Int) : Bool := if t = 0 then true else if t = 2 then decide (0 ≤ x) && decide (x < 65536) else if t = 3 then decide (-128 ≤ x) && decide (x < 128) else if t = 4 then decide (x = 0) || decide (x = 1) else false
def im_iast (G : List im_D) (t : Nat) (q : im_N) : Option im_N := match q.2.2.1 with
  | (0, x) :: (0, i) :: (2, a) :: r => match G[a.toNat]? with
    | some (t' + 1, n, _) => if decide (t' = t) && im_in i n && im_fit t x then some (q.1 + 1, q.2.1, r, q.2.2.2.1, im_up q.2.2.2.2 a.toNat i.toNat x) else none
    | _ => none
  | _ => none
theorem im_row_i {t : Nat} {f : Nat → Int} (h1 : t ≠ 1) (h2 : t < 5) : im_row t f = .inl (fun i => Int32.ofInt (f i)) := by
  unfold im_row
  rw [if_neg h1, if_pos h2]
theorem im_row_up {s : im_S} {a k : Nat} {x : Int} : (fun i => Int32.ofInt (im_up s.2 a k x a i)) = upd (fun i => Int32.ofInt (s.2 a i)) k (Int32.ofInt x) := by
  funext i
  by_cases h : i = k
  · subst h; simp [im_up, upd]
  · simp [im_up, upd, h]
theorem im_iast_s {t : Nat} {ty : FieldType} (h1 : t ≠ 1) (h2 : t < 5) (hn : ∀ x, im_iI x = true → im_fit t x = true → vp_nar ty (Int32.ofInt x) = Int32.ofInt x) : im_sim G (rm_iast t ty) (im_iast G t) := by
  intro q r hw hf
  unfold im_iast at hf
  split at hf
  · rename_i x i a st hst
    have hw2 := hw.2
    rw [hst] at hw2
    split at hf
    · rename_i t' n z hG
      split at hf
      · rename_i hc
        cases hf
        simp only [Bool.and_eq_true, decide_eq_true_eq] at hc
        obtain ⟨⟨rfl, hc1⟩, hc2⟩ := hc
        have hw3 := (im_ok_tail hw2).2
        obtain ⟨e1, e2⟩ := im_in_c (im_ok_tail hw3).1 hc1
        refine ⟨?_, hw.1, (im_ok_tail (im_ok_tail hw3).2).2⟩
        simp only [rm_iast, im_c, hst, List.map_cons, im_cv0, im_cv1, im_cv2, im_cv4]
        rw [im_arr_c hG, im_row_i h1 h2]
        have z9 := hn x (im_ok_tail hw2).1 hc2
        have e3 : (im_ch G q.2.2.2).set a.toNat (.inl (t', n, .inl (upd (fun i => Int32.ofInt (q.2.2.2.2 a.toNat i)) i.toNat (Int32.ofInt x)))) = im_ch G (q.2.2.2.1, im_up q.2.2.2.2 a.toNat i.toNat x) := by
          refine im_ch_set hG ?_ (fun b e hb => im_cell_other2 hb)
          show Sum.inl (t', n, im_row t' _) = _
          rw [im_row_i h1 h2]
          have z8 := im_row_up (s := q.2.2.2) (a := a.toNat) (k := i.toNat) (x := x)
          rw [← z8]
        simp only [e1, e2, z9]
        rw [e3]
        simp
      · cases hf
    · cases hf
  · cases hf
theorem im_nar_int (x : Int) (h : im_iI x = true) (h2 : im_fit 0 x = true) : vp_nar .int (Int32.ofInt x) = Int32.ofInt x := rfl
theorem im_nar_char (x : Int) (h : im_iI x = true) (h2 : im_fit 2 x = true) : vp_nar .char (Int32.ofInt x) = Int32.ofInt x := by
  have h2 : 0 ≤ x ∧ x < 65536 := by
    unfold im_fit at h2
    simpa using h2
  obtain ⟨n, rfl⟩ := Int.eq_ofNat_of_zero_le h2.1
  have hn : n < 65536 := by omega
  have e : Int32.ofInt (n : Int) = Int32.ofNat n := rfl
  rw [e]
  show ((Int32.ofNat n).toUInt32 % 65536).toInt32 = Int32.ofNat n
  have e2 : (Int32.ofNat n).toUInt32 = UInt32.ofNat n := rfl
  rw [e2]
  have e3 : UInt32.ofNat n % 65536 = UInt32.ofNat n := by
    apply UInt32.toNat_inj.mp
    rw [UInt32.toNat_mod, UInt32.toNat_ofNat_of_lt' (by show n < 4294967296; omega)]
    exact Nat.mod_eq_of_lt hn
  rw [e3]
  rfl
theorem im_nar_byte (x : Int) (h : im_iI x = true) (h2 : im_fit 3 x = true) : vp_nar .byte (Int32.ofInt x) = Int32.ofInt x := by
  have h2 : -128 ≤ x ∧ x < 128 := by
    unfold im_fit at h2
    simpa using h2
  show (Int32.ofInt x).toInt8.toInt32 = Int32.ofInt x
  apply Int32.toInt_inj.mp
  rw [Int8.toInt_toInt32, Int32.toInt_toInt8, im_to32 h]
  exact Int.bmod_eq_of_le (by omega) (by omega)
theorem im_nar_bool (x : Int) (h : im_iI x = true) (h2 : im_fit 4 x = true) : vp_nar .boolean (Int32.ofInt x) = Int32.ofInt x := by
  simp [im_fit] at h2
  rcases h2 with rfl | rfl <;> rfl
def im_bast (G : List im_D) (q : im_N) : Option im_N := match q.2.2.1 with
  | (0, _) :: (0, _) :: (2, a) :: _ => match G[a.toNat]? with
    | some (4, _, _) => im_iast G 3 q
    | some (5, _, _) => im_iast G 4 q
    | _ => none
  | _ => none
theorem im_bast_s : im_sim G rm_bast (im_bast G) := by
  intro q r hw hf
  unfold im_bast at hf
  split at hf
  · rename_i x i a st hst
    split at hf
    · rename_i n z hG
      have k := im_iast_s (G := G) (t := 3) (ty := .byte) (by decide) (by decide) im_nar_byte q r hw hf
      refine ⟨?_, k.2⟩
      rw [← k.1]
      unfold rm_bast
      have e : (im_c G q).2.2.1 = .int (Int32.ofInt x) :: .int (Int32.ofInt i) :: .ref a.toNat :: st.map im_cv := by simp [im_c, hst, im_cv0, im_cv1, im_cv2, im_cv4]
      rw [e]
      have e2 : rm_arr (im_c G q).2.2.2.1 a.toNat = some (3, n, im_row 3 (q.2.2.2.2 a.toNat)) := im_arr_c (t := 3) hG
      simp only [e2]
    · rename_i n z hG
      have k := im_iast_s (G := G) (t := 4) (ty := .boolean) (by decide) (by decide) im_nar_bool q r hw hf
      refine ⟨?_, k.2⟩
      rw [← k.1]
      unfold rm_bast
      have e : (im_c G q).2.2.1 = .int (Int32.ofInt x) :: .int (Int32.ofInt i) :: .ref a.toNat :: st.map im_cv := by simp [im_c, hst, im_cv0, im_cv1, im_cv2, im_cv4]
      rw [e]
      have e2 : rm_arr (im_c G q).2.2.2.1 a.toNat = some (4, n, im_row 4 (q.2.2.2.2 a.toNat)) := im_arr_c (t := 4) hG
      simp only [e2]
    · cases hf
  · cases hf
def im_last (G : List im_D) (q : im_N) : Option im_N := match q.2.2.1 with
  | (1, x) :: (0, i) :: (2, a) :: r => match G[a.toNat]? with
    | some (2, n, _) => if im_in i n then some (q.1 + 1, q.2.1, r, q.2.2.2.1, im_up q.2.2.2.2 a.toNat i.toNat x) else none
    | _ => none
  | _ => none
theorem im_row_upL {s : im_S} {a k : Nat} {x : Int} : (fun i => Int64.ofInt (im_up s.2 a k x a i)) = vp_updL (fun i => Int64.ofInt (s.2 a i)) k (Int64.ofInt x) := by
  funext i
  by_cases h : i = k
  · subst h; simp [im_up, vp_updL]
  · simp [im_up, vp_updL, h]
theorem im_last_s : im_sim G rm_last (im_last G) := by
  intro q r hw hf
  unfold im_last at hf
  split at hf
  · rename_i x i a st hst
    have hw2 := hw.2
    rw [hst] at hw2
    split at hf
    · rename_i n z hG
      split at hf
      · rename_i hc1
        cases hf
        have hw3 := (im_ok_tail hw2).2
        obtain ⟨e1, e2⟩ := im_in_c (im_ok_tail hw3).1 hc1
        refine ⟨?_, hw.1, (im_ok_tail (im_ok_tail hw3).2).2⟩
        simp only [rm_last, im_c, hst, List.map_cons, im_cv0, im_cv1, im_cv2, im_cv4]
        rw [im_arr_c (t := 1) hG]
        have e3 : (im_ch G q.2.2.2).set a.toNat (.inl (1, n, .inr (.inl (vp_updL (fun i => Int64.ofInt (q.2.2.2.2 a.toNat i)) i.toNat (Int64.ofInt x))))) = im_ch G (q.2.2.2.1, im_up q.2.2.2.2 a.toNat i.toNat x) := by
          refine im_ch_set hG ?_ (fun b e hb => im_cell_other2 hb)
          show Sum.inl (1, n, Sum.inr (Sum.inl _)) = _
          have z8 := im_row_upL (s := q.2.2.2) (a := a.toNat) (k := i.toNat) (x := x)
          rw [← z8]
        show (if (decide (1 = 1) && rm_in (Int32.ofInt i) n) = true then _ else _) = _
        rw [e1, e2, e3]
        rfl
      · cases hf
    · cases hf
  · cases hf
/-- a part of one row into another -/
def im_cp (f : Nat → Nat → Int) (a b sp dp n : Nat) : Nat → Nat → Int := fun c k => if c = b ∧ dp ≤ k ∧ k < dp + n then f a (sp + (k - dp)) else f c k
def im_acopy (G : List im_D) (q : im_N) : Option im_N := match q.2.2.1 with
  | (0, n) :: (0, dp) :: (2, b) :: (0, sp) :: (2, a) :: r => match G[a.toNat]?, G[b.toNat]? with
    | some (1, n0, _), some (1, n1, _) => if (0 ≤ sp ∧ 0 ≤ dp ∧ 0 ≤ n) ∧ sp + n ≤ n0 ∧ dp + n ≤ n1 ∧ (r.map fun v => if v.1 = 1 then 2 else 1).sum ≤ 8 then some (q.1 + 3, q.2.1, r, q.2.2.2.1, im_cp q.2.2.2.2 a.toNat b.toNat sp.toNat dp.toNat n.toNat) else none
    | _, _ => none
  | _ => none
theorem im_cs_c (r : List im_V) : ((r.map im_cv).map fun v => v.category).sum = (r.map fun v => if v.1 = 1 then 2 else 1).sum := by
  rw [List.map_map]
  congr 2
  funext v
  exact im_cv_cat v
theorem im_pos_c {x : Int} (h : im_iI x = true) (h0 : 0 ≤ x) : ¬ Int32.ofInt x < 0 ∧ (Int32.ofInt x).toNatClampNeg = x.toNat := by
  unfold im_iI at h
  simp only [Bool.and_eq_true, decide_eq_true_eq] at h
  refine ⟨?_, Int32.toNatClampNeg_ofInt_of_le (by omega) (by omega)⟩
  rw [Int32.lt_iff_toInt_lt, Int32.toInt_ofInt_of_le (by omega) (by omega)]
  show ¬ x < 0
  omega
theorem im_acopy_s : im_sim G rm_acopy (im_acopy G) := by
  intro q r hw hf
  unfold im_acopy at hf
  split at hf
  · rename_i n dp b sp a st hst
    have hw2 := hw.2
    rw [hst] at hw2
    obtain ⟨o1, hw2⟩ := im_ok_tail hw2
    obtain ⟨o2, hw2⟩ := im_ok_tail hw2
    obtain ⟨o3, hw2⟩ := im_ok_tail hw2
    obtain ⟨o4, hw2⟩ := im_ok_tail hw2
    obtain ⟨o5, hw2⟩ := im_ok_tail hw2
    split at hf
    · rename_i n0 z0 n1 z1 hG0 hG1
      split at hf
      · rename_i hc
        cases hf
        obtain ⟨⟨h1, h2, h3⟩, h4, h5, h6⟩ := hc
        obtain ⟨e1, f1⟩ := im_pos_c o4 h1
        obtain ⟨e2, f2⟩ := im_pos_c o2 h2
        obtain ⟨e3, f3⟩ := im_pos_c o1 h3
        refine ⟨?_, hw.1, hw2⟩
        simp only [rm_acopy, im_c, hst, List.map_cons, im_cv0, im_cv1, im_cv2, im_cv4]
        rw [im_arr_c (t := 0) hG0, im_arr_c (t := 0) hG1]
        have e9 : (im_ch G q.2.2.2).set b.toNat (.inl (0, n1, .inl (va_cpy (fun i => Int32.ofInt (q.2.2.2.2 a.toNat i)) (fun i => Int32.ofInt (q.2.2.2.2 b.toNat i)) sp.toNat dp.toNat n.toNat))) = im_ch G (q.2.2.2.1, im_cp q.2.2.2.2 a.toNat b.toNat sp.toNat dp.toNat n.toNat) := by
          refine im_ch_set hG1 ?_ (fun c e hb => ?_)
          · show Sum.inl (0, n1, Sum.inl _) = _
            congr 4
            funext k
            show Int32.ofInt (im_cp q.2.2.2.2 a.toNat b.toNat sp.toNat dp.toNat n.toNat b.toNat k) = va_cpy _ _ _ _ _ k
            unfold im_cp va_cpy
            by_cases hk : dp.toNat ≤ k ∧ k < dp.toNat + n.toNat
            · rw [if_pos (And.intro rfl hk), if_pos hk]
            · rw [if_neg (fun z => hk (And.right z)), if_neg hk]
          · obtain ⟨t, m, z⟩ := e
            cases t with
            | zero => rfl
            | succ t =>
              show Sum.inl (t, m, im_row t _) = Sum.inl (t, m, im_row t _)
              have : im_cp q.2.2.2.2 a.toNat b.toNat sp.toNat dp.toNat n.toNat c = q.2.2.2.2 c := by
                funext j
                unfold im_cp
                rw [if_neg (fun z => hb z.1)]
              exact congrArg (fun z => Sum.inl (t, m, im_row t z)) this
        show (if (¬ Int32.ofInt sp < 0 ∧ ¬ Int32.ofInt dp < 0 ∧ ¬ Int32.ofInt n < 0) ∧ (Int32.ofInt sp).toNatClampNeg + (Int32.ofInt n).toNatClampNeg ≤ n0 ∧ (Int32.ofInt dp).toNatClampNeg + (Int32.ofInt n).toNatClampNeg ≤ n1 ∧ ((st.map im_cv).map fun v => v.category).sum ≤ 8 then _ else _) = _
        rw [if_pos ⟨⟨e1, e2, e3⟩, by rw [f1, f3]; omega, by rw [f2, f3]; omega, by rw [im_cs_c]; exact h6⟩, f1, f2, f3, e9]
      · cases hf
    · cases hf
  · cases hf
end IMH
