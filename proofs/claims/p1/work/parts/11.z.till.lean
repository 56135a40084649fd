/-! A RUN UP TO A PLACE; HEAPS THAT ARE ALIKE -/
noncomputable def rm_tbody (call : Nat → List Value → rm_H → List Nat → Option rm_Re) (P : Nat → rm_M) (M : rm_M) (L : Nat) (xs : rm_F) (stop : Nat) (q : rm_N) (ih : rm_N → Option rm_N) : Option rm_N := cond (Nat.beq q.1 stop) (some q) (match rm_find M.1 q.1 with
    | none => none
    | some ii => match rm_one1 call P M L xs ii.1 ii.2 (rm_t1 q) with
        | some r => cond (rm_ge q r) (rm_force (rm_mod ii.1) (rm_tk q.2.2.2.2.2.2.2 r) ih) none
        | none => none)
noncomputable def rm_till (call : Nat → List Value → rm_H → List Nat → Option rm_Re) (P : Nat → rm_M) (M : rm_M) (L : Nat) (xs : rm_F) (stop f : Nat) : rm_N → Option rm_N := Nat.rec (motive := fun _ => rm_N → Option rm_N) (fun _ => none) (fun _ ih q => rm_tbody call P M L xs stop q ih) f
section RMT
variable {p : Program} {l : Launch} {e : Env} {R : Room} {s : State} {m : MethodId} {args : Array Value} {below : List Frame} {meth : Method} {c : Code} {Q : State → Prop}
variable {sz : Nat} {ext : Nat → Nat} {cA : Nat → ClassId} {D : va_G} {own : String} {L : Nat} {xs : rm_F} {mt : Nat → rm_Y} {P : Nat → rm_M} {nM d : Nat} {M : rm_M}
theorem rm_till_s (hx : p.tables.exec = Jvm.exec) (hml : c.maxLocals = M.2.2.1) (hts : ∀ w ∈ rm_tb, w.before args s = true) (hX : rm_X D cA sz ext L xs s) (hown : s.vm.findClass own = some m.cls) (hks : ∀ k ∈ M.2.1, rm_okK own k ∧ rm_okM mt P nM own k) (hini : M.2.2.2.2.1 = true → meth.name = "<init>" ∧ ∃ q, vwCl[M.2.2.2.2.2]? = some q ∧ q.1 = own) (hfr : d + 2 ≤ R.frames) (hlo : 64 * (d + 2) ≤ R.locals) (hdec : ∀ q ∈ M.1, decode c.code q.1 = .ok (q.2.1, q.2.2)) {call : Nat → List Value → rm_H → List Nat → Option rm_Re}
    (Hcall : ∀ (z mi : Nat) (av : List Value) (h : rm_H) (orc : List Nat) (res : rm_Re), call mi av h orc = some res → res.2.2.2.2.2 = true → mi < nM → rm_Mt l D cA z ext L xs mt d mi av h res) {stop : Nat} {q' : rm_N} (hok : q'.2.2.2.2.2.2.2 = true) (hc1 : q'.2.2.2.2.1 ≤ R.cells) (hc2 : q'.2.2.2.2.2.1 ≤ R.slots)
    (hEnd : rm_K p l e R s m args below meth c Q M.2.2.1 sz ext cA D q') :
    ∀ (f : Nat) (q : rm_N), rm_till call P M L xs stop f q = some q' → q.2.2.2.2.2.2.2 = true ∧ q.2.2.2.2.1 ≤ q'.2.2.2.2.1 ∧ q.2.2.2.2.2.1 ≤ q'.2.2.2.2.2.1 ∧ rm_K p l e R s m args below meth c Q M.2.2.1 sz ext cA D q := by
  intro f
  induction f with
  | zero => intro q h; cases h
  | succ f ih =>
    intro q h
    have h : rm_tbody call P M L xs stop q (rm_till call P M L xs stop f) = some q' := h
    unfold rm_tbody at h
    cases hb : Nat.beq q.1 stop with
    | true =>
      rw [hb] at h
      have h : some q = some q' := h
      cases h
      exact ⟨hok, Nat.le_refl _, Nat.le_refl _, hEnd⟩
    | false =>
      rw [hb] at h
      dsimp only [cond_false] at h
      split at h
      · cases h
      · rename_i ii hii
        have hmem := rm_find_mem hii
        split at h
        · rename_i r hr
          cases hge : rm_ge q r with
          | true =>
            rw [hge] at h
            have h : rm_force (rm_mod ii.1) (rm_tk q.2.2.2.2.2.2.2 r) (rm_till call P M L xs stop f) = some q' := h
            rw [rm_force_eq] at h
            obtain ⟨g1, g2, g3, g4⟩ := ih _ h
            have g1 : (r.2.2.2.2.2.2.2 && q.2.2.2.2.2.2.2) = true := g1
            simp only [Bool.and_eq_true] at g1
            unfold rm_ge at hge
            simp only [Bool.and_eq_true] at hge
            have z1 := Nat.le_of_ble_eq_true hge.1
            have z2 := Nat.le_of_ble_eq_true hge.2
            have g2 : r.2.2.2.2.1 ≤ q'.2.2.2.2.1 := g2
            have g3 : r.2.2.2.2.2.1 ≤ q'.2.2.2.2.2.1 := g3
            have hK : rm_K p l e R s m args below meth c Q M.2.2.1 sz ext cA D r := g4
            have hd : decode c.code (rm_t1 q).1 = .ok (ii.1, ii.2) := hdec (q.1, ii) hmem
            exact ⟨g1.2, Nat.le_trans z1 g2, Nat.le_trans z2 g3, rm_one_s (M := M) (call := call) hx hml hts hX hown hks hini hfr hlo Hcall (rm_t1 q) r hd hr g1.1 (Nat.le_trans g2 hc1) (Nat.le_trans g3 hc2) hK⟩
          | false => rw [hge] at h; cases h
        · cases h
end RMT
def rm_simc (x y : va_E) : Bool := match x, y with
  | .inr o, .inr o' => decide (o = o')
  | .inl (t, n, .inr (.inr (.inl _))), .inl (t', n', .inr (.inr (.inl _))) => decide (t = t') && decide (n = n')
  | .inl (t, n, .inr (.inr (.inr (.inr f)))), .inl (t', n', .inr (.inr (.inr (.inr f')))) => decide (t = t') && decide (n = n') && (List.range n).all (fun j => decide (f j = f' j))
  | _, _ => false
def rm_simh : rm_H → rm_H → Bool
  | [], [] => true
  | x :: h, y :: h' => rm_simc x y && rm_simh h h'
  | _, _ => false
theorem rm_arrV_congr {cA : ClassId} {n : Nat} {f g : Nat → Value} (h : ∀ j, j < n → f j = g j) : arrV cA n f = arrV cA n g := by
  unfold arrV
  congr 2
  funext j
  exact h j.1 j.2
theorem rm_simc_s {D : va_G} {sz : Nat} {ext : Nat → Nat} {cA : Nat → ClassId} {H : Heap} {k : Nat} {x y : va_E} (h : rm_simc x y = true) (hx : rm_at1 D sz ext cA k x H) : rm_at1 D sz ext cA k y H := by
  unfold rm_simc at h
  split at h
  · have e := of_decide_eq_true h
    cases e
    exact hx
  · simp only [Bool.and_eq_true, decide_eq_true_eq] at h
    obtain ⟨rfl, rfl⟩ := h
    exact hx
  · rename_i t n f t' n' f'
    simp only [Bool.and_eq_true, decide_eq_true_eq] at h
    obtain ⟨⟨rfl, rfl⟩, h3⟩ := h
    have hx : H[sz + k]? = some (vp_cell (cA t) (n, .inr (.inr (.inr (.inr (fun j => (f j).map (fun k => sz + k))))))) := hx
    show H[sz + k]? = some (vp_cell (cA t) (n, .inr (.inr (.inr (.inr (fun j => (f' j).map (fun k => sz + k)))))))
    rw [hx, vp_cell_q, vp_cell_q]
    congr 1
    refine rm_arrV_congr (fun j hj => ?_)
    have z := of_decide_eq_true (List.all_eq_true.mp h3 j (List.mem_range.mpr hj))
    rw [z]
  · cases h
theorem rm_simh_s {h h' : rm_H} (e : rm_simh h h' = true) : h.length = h'.length ∧ ∀ (k : Nat) (y : va_E), h'[k]? = some y → ∃ x, h[k]? = some x ∧ rm_simc x y = true := by
  induction h generalizing h' with
  | nil =>
    cases h' with
    | nil => exact ⟨rfl, fun k y hk => by simp at hk⟩
    | cons y r => cases e
  | cons x h ih =>
    cases h' with
    | nil => cases e
    | cons y r =>
      have e : (rm_simc x y && rm_simh h r) = true := e
      simp only [Bool.and_eq_true] at e
      obtain ⟨g1, g2⟩ := ih e.2
      refine ⟨congrArg Nat.succ g1, fun k z hk => ?_⟩
      cases k with
      | zero => cases hk; exact ⟨x, rfl, e.1⟩
      | succ k => exact g2 k z hk
theorem rm_R.sim {D : va_G} {sz : Nat} {ext : Nat → Nat} {cA : Nat → ClassId} {h h' : rm_H} {H : Heap} (hR : rm_R D sz ext cA h H) (e : rm_simh h h' = true) : rm_R D sz ext cA h' H := by
  obtain ⟨g1, g2⟩ := rm_simh_s e
  refine ⟨by rw [hR.1, g1], fun k y hk => ?_⟩
  obtain ⟨x, h1, h2⟩ := g2 k y hk
  exact rm_simc_s h2 (hR.2 k x h1)
