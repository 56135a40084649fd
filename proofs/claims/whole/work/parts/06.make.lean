/-! PUTFIELD, NEW, ARRAYS -/
theorem rm_v_default (sz : Nat) (ext : Nat → Nat) (ty : FieldType) : rm_v sz ext (defaultValue ty) = defaultValue ty := by cases ty <;> rfl
theorem rm_fit_ok {ty : FieldType} {v : Value} (h : rm_fit ty v = true) (sz : Nat) (ext : Nat → Nat) : narrow ty (rm_v sz ext v) = rm_v sz ext v ∧ fits ty (rm_v sz ext v) = true := by
  unfold rm_fit at h
  split at h
  · exact ⟨rfl, rfl⟩
  · exact ⟨rfl, rfl⟩
  · rename_i x
    simp only [decide_eq_true_eq] at h
    rcases h with rfl | rfl
    · exact ⟨rfl, rfl⟩
    · exact ⟨rfl, rfl⟩
  · exact ⟨rfl, rfl⟩
  · exact ⟨rfl, rfl⟩
  · cases h
theorem rm_map_set {sz : Nat} {ext : Nat → Nat} (fs : List Value) (k : Nat) (v : Value) : (fs.set k v).map (rm_v sz ext) = (fs.map (rm_v sz ext)).set k (rm_v sz ext v) := List.map_set
section RMP
variable {p : Program} {l : Launch} {e : Env} {R : Room} {s : State} {m : MethodId} {args : Array Value} {below : List Frame} {meth : Method} {c : Code} {Q : State → Prop}
variable {nL sz : Nat} {ext : Nat → Nat} {cA : Nat → ClassId} {D : va_G} {own : String} {L : Nat} {ys : Nat → Int32} {ks : List rm_K5}
theorem rm_s_putf (hx : p.tables.exec = Jvm.exec) (hts : ∀ w ∈ rm_tb, w.before args s = true) (hX : rm_X D cA sz ext L ys s) (hown : s.vm.findClass own = some m.cls) (hks : ∀ k ∈ ks, rm_okK own k) {ini : Bool} {oc : Nat} (hini : ini = true → meth.name = "<init>" ∧ ∃ q, vwCl[oc]? = some q ∧ q.1 = own) {i : Nat} : rm_KR p l e R s m args below meth c Q nL sz ext cA D (.putfield i) 3 (rm_putf ini oc (rm_lk ks i)) := by
  intro q r hd hf _ _ K ls H locs hl hR hS
  unfold rm_putf at hf
  split at hf
  · rename_i ci f v a st hk hst
    have hok := hks _ (rm_lk_mem hk)
    split at hf
    · rename_i o ho
      split at hf
      · rename_i hcond
        cases hf
        simp only [Bool.and_eq_true, decide_eq_true_eq, Bool.or_eq_true, Bool.not_eq_true'] at hcond
        obtain ⟨⟨⟨hci, hfit⟩, hlen⟩, hfin⟩ := hcond
        obtain ⟨ci', fs⟩ := o
        have hci : ci' = ci := hci
        subst hci
        have hk0 := rm_obj_ok ho
        have hat := hR.2 _ _ hk0
        obtain ⟨C, T, N, h1, h2, h3⟩ := hok
        obtain ⟨g1, g2, g3, g4, g5, g6⟩ := rm_okC_all _ _ h1
        have z4 : (T f).1 = C := g4 f h2
        have g2f : parseFieldDescriptor (T f).2.2.1 = some (rm_ft ci' f) := g2 f h2
        have hap := va_apart (own := own) (args := args) (s := s) hts g1 (rm_ft ci') g2 g3 hX.1 h1
        obtain ⟨r0, e1, cell, q1, q2, q3, q4⟩ := hat
        have hr : r0 = (C, T, N) := Option.some.inj (e1.symm.trans h1)
        subst hr
        obtain ⟨hSl, hfc, kC, hkC, hkind⟩ := hX.1.1 ci' _ h1
        obtain ⟨cf, kf, fi, fd, hi, hsl⟩ := hSl f h2
        have hst2 := (u_facts hfc hkC (u_lays hts g1 h2) hi).1
        obtain ⟨n1, n2⟩ := rm_fit_ok hfit sz ext
        have h6 := u_fits hfc hkC hkind (u_lays hts g1 h2) hi g2f n1 n2
        have hlt : fd.slot < cell.slots.size := by rw [hsl]; exact k2_hasslot (q4 f h2)
        have hi2 : s.fieldFound? C (T f).2.1 (T f).2.2.1 = some (cf, kf, fi, fd) := by
          have hi9 := hi
          dsimp only at hi9
          rw [z4] at hi9
          exact hi9
        have hff : hasFlag fd.accessFlags Acc.final = false ∨ (m.cls = cf ∧ meth.name = "<init>") := by
          have hlay := hts _ (g1 _ (u_in_lay h2))
          unfold u_lay at hlay
          have efin : rm_fin ci' f = (T f).2.2.2 := by unfold rm_fin; rw [h1]
          rw [efin] at hfin
          cases hb : (T f).2.2.2 with
          | false =>
            rw [if_neg (by rw [hb]; decide)] at hlay
            exact Or.inl (u_store hfc hkC hkind hlay hi g2f n1 n2).1
          | true =>
            rcases hfin with hfin | ⟨hfin, hoc⟩
            · rw [hb] at hfin; cases hfin
            · obtain ⟨w1, qq, w2, w3⟩ := hini hfin
              rw [hoc, h1] at w2
              cases w2
              rw [if_pos hb] at hlay
              obtain ⟨_, _, c', _, _, _, -, -, hf', -, -, -, hown2, -⟩ := Cond.laysFinal_spec hlay
              have e1 : c' = cf := by have := hi.symm.trans hf'; simp at this; exact this.1.symm
              have w3 : C = own := w3
              have z5 : (T f).1 = own := z4.trans w3
              dsimp only at hown2
              rw [z5] at hown2
              exact Or.inr ⟨by rw [← e1]; exact Option.some.inj (hown.symm.trans hown2), w1⟩
        have ha : sz + a < H.size := (Array.getElem?_eq_some_iff.mp q1).1
        rw [hst]
        refine W.putf hx rfl hown (hts _ h3) hi2 hst2 hff q1 (by rw [q3]; exact fun z => by cases z) hlt h6.1 (by rw [q2, q3]; exact h6.2) rfl rfl hd ?_
        refine K ls _ _ hl ?_ ?_
        · refine hR.set hk0 ?_ (by simp) (fun j hj => by simp [Array.getElem?_setIfInBounds, Ne.symm hj])
          refine ⟨_, h1, t_OB.to (V := updV (vp_V (fs.map (rm_v sz ext))) f (rm_v sz ext v)) ⟨cell.setSlot fd.slot (rm_v sz ext v), by simp [Array.getElem?_setIfInBounds, ha], q2, q3, ?_⟩ (fun j _ => ?_)⟩
          · rw [hsl]
            exact t_set q4 hap h2 _
          · rw [rm_map_set]
            exact vp_updV_set (by rw [List.length_map]; exact hlen) _ j
        · exact hS.put (Nat.le_add_right sz a) (fun j hj => by simp [Array.getElem?_setIfInBounds, Ne.symm hj])
      · cases hf
    · cases hf
  · cases hf
theorem rm_s_putfN (hx : p.tables.exec = Jvm.exec) (hts : ∀ w ∈ rm_tb, w.before args s = true) (hX : rm_X D cA sz ext L ys s) (hown : s.vm.findClass own = some m.cls) (hks : ∀ k ∈ ks, rm_okK own k) {i : Nat} : rm_KR p l e R s m args below meth c Q nL sz ext cA D (.putfield i) 3 (rm_putfN (rm_lk ks i)) := by
  intro q r hd hf _ _ K ls H locs hl hR hS
  unfold rm_putfN at hf
  split at hf
  · rename_i ci f w v a st hk hst
    have hok := hks _ (rm_lk_mem hk)
    split at hf
    · rename_i o ho
      split at hf
      · rename_i hcond
        cases hf
        simp only [Bool.and_eq_true, decide_eq_true_eq, Bool.not_eq_true'] at hcond
        obtain ⟨⟨⟨hci, hfit⟩, hlen⟩, hfin⟩ := hcond
        obtain ⟨ci', fs⟩ := o
        have hci : ci' = ci := hci
        subst hci
        have hk0 := rm_obj_ok ho
        have hat := hR.2 _ _ hk0
        obtain ⟨C, T, N, h1, h2, h3⟩ := hok
        obtain ⟨g1, g2, g3, g4, g5, g6⟩ := rm_okC_all _ _ h1
        have z4 : (T f).1 = C := g4 f h2
        have g2f : parseFieldDescriptor (T f).2.2.1 = some (rm_ft ci' f) := g2 f h2
        have hap := va_apart (own := own) (args := args) (s := s) hts g1 (rm_ft ci') g2 g3 hX.1 h1
        obtain ⟨r0, e1, cell, q1, q2, q3, q4⟩ := hat
        have hr : r0 = (C, T, N) := Option.some.inj (e1.symm.trans h1)
        subst hr
        obtain ⟨hSl, hfc, kC, hkC, hkind⟩ := hX.1.1 ci' _ h1
        obtain ⟨cf, kf, fi, fd, hi, hsl⟩ := hSl f h2
        have hlay := hts _ (g1 _ (u_in_lay h2))
        unfold u_lay at hlay
        have efin : rm_fin ci' f = (T f).2.2.2 := by unfold rm_fin; rw [h1]
        rw [efin] at hfin
        rw [if_neg (by rw [hfin]; decide)] at hlay
        have hst2 := (u_facts hfc hkC (u_lays hts g1 h2) hi).1
        obtain ⟨n1, n2⟩ := rm_fit_ok hfit sz ext
        have h6 := u_store hfc hkC hkind hlay hi g2f n1 n2
        have hi2 : s.fieldFound? C (T f).2.1 (T f).2.2.1 = some (cf, kf, fi, fd) := by
          have hi9 := hi
          dsimp only at hi9
          rw [z4] at hi9
          exact hi9
        rw [hst]
        refine va_WputK hx rfl (f := fd) hown (va_Nw.use rfl (hX.2.2.1 _ h3)) hi2 hst2 (by rw [q2]; exact h6) q1 q3 (by rw [hsl]; exact k2_hasslot (q4 f h2)) rfl rfl hd fun H' e9 e2 e3 => ?_
        rw [hsl] at e9
        refine K ls H' _ hl (hR.set hk0 ?_ e2 e3) (hS.put (Nat.le_add_right sz a) e3)
        refine ⟨_, h1, t_OB.to (V := updV (vp_V (fs.map (rm_v sz ext))) f (rm_v sz ext v)) ⟨_, e9, q2, q3, t_set q4 hap h2 _⟩ (fun j _ => ?_)⟩
        rw [rm_map_set]
        exact vp_updV_set (by rw [List.length_map]; exact hlen) _ j
      · cases hf
    · cases hf
  · cases hf
theorem rm_s_putfA (hx : p.tables.exec = Jvm.exec) (hts : ∀ w ∈ rm_tb, w.before args s = true) (hX : rm_X D cA sz ext L ys s) (hown : s.vm.findClass own = some m.cls) (hks : ∀ k ∈ ks, rm_okK own k) {ini : Bool} {oc : Nat} (hini : ini = true → meth.name = "<init>" ∧ ∃ q, vwCl[oc]? = some q ∧ q.1 = own) {i : Nat} : rm_KR p l e R s m args below meth c Q nL sz ext cA D (.putfield i) 3 (rm_putfA ini oc (rm_lk ks i)) := by
  intro q r hd hf h1 h2 K
  unfold rm_putfA at hf
  split at hf
  · rename_i ci f w hk
    exact rm_s_putfN hx hts hX hown hks q r hd (by rw [hk]; exact hf) h1 h2 K
  · exact rm_s_putf hx hts hX hown hks hini q r hd hf h1 h2 K
theorem rm_s_new (hx : p.tables.exec = Jvm.exec) (hts : ∀ w ∈ rm_tb, w.before args s = true) (hX : rm_X D cA sz ext L ys s) (hown : s.vm.findClass own = some m.cls) (hks : ∀ k ∈ ks, rm_okK own k) {i : Nat} : rm_KR p l e R s m args below meth c Q nL sz ext cA D (.new i) 3 (rm_new (rm_lk ks i)) := by
  intro q r hd hf hc1 hc2 K ls H locs hl hR hS
  unfold rm_new at hf
  split at hf
  · rename_i ci N z hk
    have hok := hks _ (rm_lk_mem hk)
    cases hf
    obtain ⟨C, T, h1, h3, -⟩ := hok
    obtain ⟨g1, g2, g3, g4, g5, g6⟩ := rm_okC_all _ _ h1
    have hKn := hX.1.1 ci _ h1
    refine W.newcK hx rfl hown (hts _ h3) (hts _ g5) (hts _ g6) rfl hd hc1 hc2 hKn.2.1 hR.1 fun H1 kC hkC e1 z1 o1 => ?_
    have hk2 := K ls H1 locs hl
    refine hk2 ?_ (hS.new (by rw [hR.1]; omega) (fun x hx9 => o1 x (by rw [← hR.1]; exact hx9)))
    refine hR.push ⟨_, h1, (u_born (rm_ft ci) hts g1 hKn hkC e1 g2).to (fun j hj => ?_)⟩ (by rw [z1, hR.1]) (fun x hx9 => o1 x (by rw [← hR.1]; exact hx9))
    have hj : j < N := hj
    simp [vp_V, hj, rm_v_default]
  · cases hf
theorem rm_tys_at {cA : Nat → ClassId} {t : Nat} {ty : FieldType} (h : rm_ts[t]? = some ty) : (rm_tys cA)[t]? = some (cA t, ty) := by
  match t, h with
  | 0, h => cases h; rfl
  | 1, h => cases h; rfl
  | 2, h => cases h; rfl
  | 3, h => cases h; rfl
  | 4, h => cases h; rfl
  | 5, h => cases h; rfl
  | 6, h => cases h; rfl
  | 7, h => cases h; rfl
  | n + 8, h => simp [rm_ts] at h
theorem rm_newa_s (hx : p.tables.exec = Jvm.exec) (hts : ∀ w ∈ rm_tb, w.before args s = true) (hX : rm_X D cA sz ext L ys s) {at9 : ArrayType} {t : Nat} {ty : FieldType} (ht : rm_ts[t]? = some ty) (hty : newarray.typeOf at9 = ty) (hno : ∀ C, ty ≠ .object C) (hb : componentBytes ty ≤ 8) (hw : Cond.arrayClass ty ∈ rm_tb)
    (hd0 : ∀ (N : Nat) (a : ClassId), vp_cell a (N, rm_d0 t) = arrV a N (fun _ => defaultValue ty)) : rm_KR p l e R s m args below meth c Q nL sz ext cA D (.newarray at9) 2 (rm_newa t) := by
  intro q r hd hf hc1 hc2 K ls H locs hl hR hS
  unfold rm_newa at hf
  split at hf
  · rename_i n st hst
    split at hf
    · cases hf
    · rename_i hn
      cases hf
      simp only [Bool.or_eq_true, decide_eq_true_eq, not_or] at hn
      subst hty
      rw [hst]
      refine va_newaK hx rfl (hts _ hw) rfl hd rfl hn.1 rfl (Nat.le_trans (Nat.mul_le_mul_left _ hb) (by omega)) hc1 hc2 hR.1 fun H1 a9 e1 z1 o1 hAr hNm => ?_
      have hRA := (hX.1.2 t _ (rm_tys_at ht)).2
      have ha9 : a9 = cA t := by
        cases at9 <;> exact Option.some.inj (hNm.symm.trans hRA)
      subst ha9
      have hk2 := K ls H1 locs hl
      refine hk2 ?_ (hS.new (by rw [hR.1]; omega) (fun x hx9 => o1 x (by rw [← hR.1]; exact hx9)))
      refine hR.push ?_ (by rw [z1, hR.1]) (fun x hx9 => o1 x (by rw [← hR.1]; exact hx9))
      have ed : rm_a sz (n.toNatClampNeg, rm_d0 t) = (n.toNatClampNeg, rm_d0 t) := by unfold rm_d0; split <;> rfl
      show H1[sz + _]? = some (vp_cell (cA t) (rm_a sz (_, rm_d0 t)))
      rw [ed, hd0]
      exact e1
  · cases hf
theorem rm_s_newq (hx : p.tables.exec = Jvm.exec) (hts : ∀ w ∈ rm_tb, w.before args s = true) (hX : rm_X D cA sz ext L ys s) (hown : s.vm.findClass own = some m.cls) (hks : ∀ k ∈ ks, rm_okK own k) {i : Nat} : rm_KR p l e R s m args below meth c Q nL sz ext cA D (.anewarray i) 3 (rm_newq (rm_lk ks i)) := by
  intro q r hd hf hc1 hc2 K ls H locs hl hR hS
  unfold rm_newq at hf
  split at hf
  · rename_i z z2 t n st hk hst
    have hok := hks _ (rm_lk_mem hk)
    split at hf
    · cases hf
    · rename_i hn
      cases hf
      simp only [Bool.or_eq_true, decide_eq_true_eq, not_or] at hn
      obtain ⟨C, T, -, h3, h1⟩ := hok
      have h1 := h1 (by omega)
      have hn := hn.1
      rw [hst]
      refine W.anew hx rfl hown (hts _ h3) (va_AO.use (hX.2.1 t C h1)) rfl hd rfl hn.1 (by omega) hc1 hc2 fun a9 kA comp f1 f2 f3 f4 => ?_
      obtain ⟨kA', comp', k1, k2, k3, k4⟩ := (hX.1.2 t _ (rm_tys_at h1)).2
      have ha9 : a9 = cA t := Option.some.inj (f1.symm.trans k4)
      subst ha9
      rw [hR.1]
      have hk2 := K ls (H.push { cls := cA t, slots := Array.replicate n.toNatClampNeg .null, vm := .none }) locs hl
      have o1 : ∀ x : Nat, x < H.size → (H.push ({ cls := cA t, slots := Array.replicate n.toNatClampNeg .null, vm := .none } : Cell))[x]? = H[x]? := fun x hx9 => by rw [Array.getElem?_push, if_neg (Nat.ne_of_lt hx9)]
      refine hk2 ?_ (hS.new (by rw [hR.1]; omega) o1)
      refine hR.push ?_ (by simp) o1
      have e9 : (H.push ({ cls := cA t, slots := Array.replicate n.toNatClampNeg .null, vm := .none } : Cell))[H.size]? = some (vp_cell (cA t) (rm_a sz (n.toNatClampNeg, .inr (.inr (.inr (.inr (fun _ => none))))))) := by
        rw [Array.getElem?_push_size, arrV_new]
        rfl
      rw [hR.1] at e9
      exact e9
  · cases hf
end RMP
