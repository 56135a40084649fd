/-! the claim out of the walk -/
section RMY
variable {p : Program} {e : Env} {s : State} {m : MethodId} {below : List Frame} {meth : Method} {c : Code} {l : Launch} {b L : Nat} {xs : Nat → Int32}
theorem rm_from1 (hL : L ≤ 2048) (C0 : lw_At p s m meth c b L xs) {D : va_G} {cA : Nat → ClassId} {ext : Nat → Nat} (hX : rm_X D cA s.heap.size ext L xs s) {q : gx_N} {s0 : im_S} (g1 : q.1 = 18) (g2 : q.2.1 = fx_lv1) (g3 : q.2.2.1 = []) (g4 : q.2.2.2.1.reverse = im_ch gG s0) (hT : tI s0) (hv : vI s0) (hR : ∀ b : Nat, gK[b]? = some 23 → s0.1 b 1 = 0) (h3 : st3 s0) (h00 : s0.1 0 0 = 0) (h1 : wgf s0 1 = 0) (h5 : wgf s0 5 = 0) (hK : KP s0) (hc1 : q.2.2.2.2.2.1 ≤ 600000) (hc2 : q.2.2.2.2.2.2 ≤ 7302250) : rm_K p l e room_1 s m #[Value.ref b] below meth c (lw_Z below #[Value.ref b] s) 4 s.heap.size ext cA D (gx_rv q) := by
  obtain ⟨hx, hb, hr, hml, hown, hts, -, hbl, hlocks, hgv⟩ := C0
  have hI : LI5 s0 := LI5_0 hT hv hR h3 h00 h1 h5 hK
  have hw := law_18z L xs hL 2100 0 s0 (by decide) (by decide) hI (by decide)
  have hw2 : ir gG rm_P L xs 86 rm_p_L_law (18, [(3, (0, 0)), (2, (2, 582)), (1, (2, 0)), (0, (4, 0))], [], s0) (fun r : im_Re => r.1 = some (0, 1)) := ir_w [(0, (4, 0)), (1, (2, ((0 : Nat) : Int))), (2, (2, ((582 : Nat) : Int))), (3, (0, 0))] ⟨rfl, rfl, rfl, rfl, trivial⟩ hw
  obtain ⟨f, res, hl, hq⟩ := hw2 _ (im_sub_refl _)
  have wf : im_wf (18, [(3, (0, 0)), (2, (2, 582)), (1, (2, 0)), (0, (4, 0))], [], s0) := ⟨fun p hp => by
    simp only [List.mem_cons, List.not_mem_nil, or_false] at hp
    rcases hp with rfl | rfl | rfl | rfl <;> decide, fun v hv => by cases hv⟩
  obtain ⟨k1, k2⟩ := im_loop_s (G := gG) (rcall := rm_call rm_P L xs 86) (im_call_s 86) f _ res wf hl
  have k3 := th_loop q.2.2.2.2.2.1 q.2.2.2.2.2.2 law_nh f _ _ k1
  have eq : tsh q.2.2.2.2.2.1 q.2.2.2.2.2.2 (im_c gG (18, [(3, (0, 0)), (2, (2, 582)), (1, (2, 0)), (0, (4, 0))], [], s0)) = gx_rv q := by
    unfold tsh gx_rv gx_q im_c
    dsimp only
    rw [g1, g2, g3, g4, Nat.zero_add, Nat.zero_add]
    rfl
  rw [eq] at k3
  have er : (im_rc gG res).1 = some (.int 1) := by
    show res.1.map im_cv = _
    rw [hq]
    rfl
  rw [er] at k3
  obtain ⟨H9, u1, u2, hu1, hu2, k4⟩ : ∃ (H9 : rm_H) (u1 u2 : Nat), u1 ≤ 600000 ∧ u2 ≤ 7302250 ∧ rm_loop (rm_call rm_P L xs 86) rm_P rm_p_L_law L xs f (gx_rv q) (some (.int 1), H9, u1, u2) := ⟨_, _, _, by show 0 + _ ≤ 600000; omega, by show 0 + _ ≤ 7302250; omega, k3⟩
  clear k3 k1 k2 hl hw hw2
  refine (rm_loop_s (p := p) (l := l) (e := e) (R := room_1) (s := s) (m := m) (args := #[Value.ref b]) (below := below) (meth := meth) (c := c) (Q := lw_Z below #[Value.ref b] s) (sz := s.heap.size) (ext := ext) (cA := cA) (D := D) (own := RL) (L := L) (ys := xs) (mt := rm_mt) (P := rm_P) (nM := 245) (d := 86) (M := rm_p_L_law)
    hx hml (fun w h => hts w (rm_tb_in w h)) hX hown rm_lk_L_law (fun z => by cases z) (by decide) (by decide) (by rw [hb]; exact rm_d_L_law) (call := rm_call rm_P L xs 86) (fun mi av h res h1 h2 => rm_call_s rm_P_ok 86 s.heap.size mi av h res h1 h2) (res := (some (.int 1), H9, u1, u2)) hu1 hu2 ?_ f (gx_rv q) k4).2.2
  intro q9 i n hmem hre ls H locs hl hR hS
  have hd : decode c.code q9.1 = .ok (i, n) := by rw [hb]; exact rm_d_L_law (q9.1, i, n) hmem
  unfold rm_ret at hre
  split at hre
  · split at hre <;> cases hre
  · rename_i v hst
    split at hre
    · rename_i hn
      obtain ⟨rfl, -⟩ := hn
      have e9 := Option.some.inj hre
      have e8 : some (Value.int v) = some (Value.int 1) := congrArg Prod.fst e9
      have e2 : q9.2.2.2 = (H9, u1, u2) := congrArg Prod.snd e9
      have ev : v = 1 := by
        have e7 := Option.some.inj e8
        injection e7
      subst ev
      have z1 : q9.2.2.2.2.1 = u1 := by rw [e2]
      have z2 : q9.2.2.2.2.2 = u2 := by rw [e2]
      rw [z1, z2, hst]
      rw [hb] at hd
      refine va_forget (fun z hz => hS.2 z hz) ?_
      refine W.widen (k := 600000) (n := 7302250) hu1 hu2 ?_
      exact lw_ret hx hb hr hlocks hd
    · cases hre
  · split at hre <;> cases hre
  · split at hre <;> cases hre
  · cases hre
theorem rm_entry (hL : L ≤ 2048) (C0 : lw_At p s m meth c b L xs) : W p l e room_1 s m #[Value.ref b] below meth c s.heap [] 0 0 (lw_Z below #[Value.ref b] s) (entryFrame m ([Value.ref b] : List Value).toArray 4) := by
  obtain ⟨D, cA, ext, he, hX⟩ := rm_ctx C0
  obtain ⟨q, s0, hq, g1, g2, g3, g4, hT, hv, hR, h00, h1, h5, hc1, hc2, hK, h3⟩ := gx_start3
  have K1 := rm_from1 (l := l) (e := e) (below := below) hL C0 (hX L xs (fun _ => ⟨rfl, rfl⟩)) g1 g2 g3 g4 hT hv hR h3 h00 h1 h5 hK hc1 hc2
  obtain ⟨hx, hb, hr, hml, hown, hts, -, hbl, hlocks, hgv⟩ := C0
  have K := (gx_till_s (p := p) (l := l) (e := e) (R := room_1) (s := s) (m := m) (args := #[Value.ref b]) (below := below) (meth := meth) (c := c) (Q := lw_Z below #[Value.ref b] s) (sz := s.heap.size) (ext := ext) (cA := cA) (D := D) (own := RL) (L := 1000000) (ys := fun _ => 0) (mt := rm_mt) (P := rm_P) (nM := 245) (d := 13) (M := rm_p_L_law)
      hx hml (fun w h => hts w (rm_tb_in w h)) (hX 1000000 (fun _ => 0) (fun z => absurd rfl z)) hown rm_lk_L_law (fun z => by cases z) (by decide) (by decide) (by rw [hb]; exact rm_d_L_law) (call := gx_call rm_P 1000000 (fun _ => 0) 5000 13) (cR := rm_call rm_P 1000000 (fun _ => 0) 13) (gx_call_s 13) (fun mi av h res h1 h2 => rm_call_s rm_P_ok 13 s.heap.size mi av h res h1 h2) (stop := 18) (q' := q) hc1 hc2 K1 100 gx_q0 rfl hq).2.2
  have hl := lv_entry ([.ref b]) (n := 4) (Nat.le_of_ble_eq_true rfl)
  rw [lg_entry_eq]
  refine K _ s.heap [] ?_ ⟨rfl, fun k c h => by simp [gx_rv, gx_q, gx_q0] at h⟩ ⟨fun _ _ => rfl, fun _ h => by cases h⟩
  have e : rm_l s.heap.size ext (gx_rv gx_q0).2.1 = lv_args 0 [.ref b] := by
    show [(0, Value.ref (ext 0))] = [(0, Value.ref b)]
    rw [he]
  rw [e]
  exact hl
end RMY
theorem whole_start {p : Program} {e : Env} {s : State} {m : MethodId} {below : List Frame} {meth : Method} {c : Code} (l : Launch) {b L : Nat} {xs : Nat → Int32} (hL : L ≤ 2048) (C0 : lw_At p s m meth c b L xs) : W p l e room_1 s m #[Value.ref b] below meth c s.heap [] 0 0 (lw_Z below #[Value.ref b] s) (entryFrame m ([Value.ref b] : List Value).toArray 4) := rm_entry hL C0
