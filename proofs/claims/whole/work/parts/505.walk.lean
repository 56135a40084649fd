/-! WALKS OF THE REFERENCE'S METHODS, by program -/
theorem rf_readAtomR (L : Nat) (ys : Nat → Int32) (d : Nat) (s0 : im_S) (hT0 : uI s0) (pr0 : s0.1 582 10 + s0.1 582 12 ≤ s0.1 582 4 + s0.1 582 6) : icV gG rm_P L ys (d + 7) 82 [(2, ((582 : Nat) : Int))] s0 (fun s => uI s ∧ ur [(0, 2), (0, 3), (0, 4), (0, 6), (0, 10), (0, 21), (2, 1000), (3, 1000), (4, 1000), (7, 1000), (8, 1000), (9, 1000), (10, 1000), (11, 1000), (12, 1000), (13, 1000), (14, 1000)] s0 s ∧ s0.1 582 4 ≤ s.1 582 4 ∧ s0.1 582 2 ≤ s.1 582 2 ∧ s.1 582 10 + s.1 582 12 ≤ s.1 582 4 + s.1 582 6) := by
  refine ic_startM (M := rm_p_X10_readAtom) om_X10_readAtom (Nat.le_of_ble_eq_true rfl) ?_
  refine ir_w [(0, (2, ((582 : Nat) : Int)))] ⟨rfl, trivial⟩ ?_
  have hF0 := ur_refl [(0, 2), (0, 3), (0, 4), (0, 6), (0, 10), (0, 21), (2, 1000), (3, 1000), (4, 1000), (7, 1000), (8, 1000), (9, 1000), (10, 1000), (11, 1000), (12, 1000), (13, 1000), (14, 1000)] s0
  have J235 : ∀ (q235_s1 : Int) (q235_s1l : 0 ≤ q235_s1) (q235_s1h : q235_s1 ≤ 9) (q235_s2 : Int) (q235_s2l : 0 ≤ q235_s2) (q235_s2h : q235_s2 ≤ 2) (s_235 : im_S) (hT_235 : uI s_235) (hF_235 : ur [(0, 2), (0, 3), (0, 4), (0, 6), (0, 10), (0, 21), (2, 1000), (3, 1000), (4, 1000), (7, 1000), (8, 1000), (9, 1000), (10, 1000), (11, 1000), (12, 1000), (13, 1000), (14, 1000)] s0 s_235) (w235_582_1 : Int) (w235_582_1l : 0 ≤ w235_582_1) (w235_582_1h : w235_582_1 ≤ 400) (w235_582_1e : s_235.1 582 1 = w235_582_1) (w235_582_2 : Int) (w235_582_2l : 0 ≤ w235_582_2) (w235_582_2h : w235_582_2 ≤ 3) (w235_582_2e : s_235.1 582 2 = w235_582_2) (w235_582_4 : Int) (w235_582_4l : 0 ≤ w235_582_4) (w235_582_4h : w235_582_4 ≤ 400) (w235_582_4e : s_235.1 582 4 = w235_582_4) (w235_582_6 : Int) (w235_582_6l : 0 ≤ w235_582_6) (w235_582_6h : w235_582_6 ≤ 9) (w235_582_6e : s_235.1 582 6 = w235_582_6) (w235_582_8e : s_235.1 582 8 = ((585 : Nat) : Int)) (w235_582_10 : Int) (w235_582_10l : 0 ≤ w235_582_10) (w235_582_10h : w235_582_10 ≤ 500) (w235_582_10e : s_235.1 582 10 = w235_582_10) (w235_582_12 : Int) (w235_582_12l : 0 ≤ w235_582_12) (w235_582_12h : w235_582_12 ≤ 500) (w235_582_12e : s_235.1 582 12 = w235_582_12) (i235_0 : s0.1 582 4 ≤ w235_582_4) (i235_1 : s0.1 582 2 ≤ w235_582_2) (i235_2 : w235_582_10 + w235_582_12 ≤ w235_582_4 + w235_582_6), ir gG rm_P L ys (d + 6) rm_p_X10_readAtom (235, [(0, (2, ((582 : Nat) : Int)))], [(0, q235_s2), (0, q235_s1), (2, ((585 : Nat) : Int))], s_235) (fun r : im_Re => r.1 = none ∧ (uI r.2 ∧ ur [(0, 2), (0, 3), (0, 4), (0, 6), (0, 10), (0, 21), (2, 1000), (3, 1000), (4, 1000), (7, 1000), (8, 1000), (9, 1000), (10, 1000), (11, 1000), (12, 1000), (13, 1000), (14, 1000)] s0 r.2 ∧ s0.1 582 4 ≤ r.2.1 582 4 ∧ s0.1 582 2 ≤ r.2.1 582 2 ∧ r.2.1 582 10 + r.2.1 582 12 ≤ r.2.1 582 4 + r.2.1 582 6)) := by
    intro q235_s1 q235_s1l q235_s1h q235_s2 q235_s2l q235_s2h s_235 hT_235 hF_235 w235_582_1 w235_582_1l w235_582_1h w235_582_1e w235_582_2 w235_582_2l w235_582_2h w235_582_2e w235_582_4 w235_582_4l w235_582_4h w235_582_4e w235_582_6 w235_582_6l w235_582_6h w235_582_6e w235_582_8e w235_582_10 w235_582_10l w235_582_10h w235_582_10e w235_582_12 w235_582_12l w235_582_12h w235_582_12e i235_0 i235_1 i235_2
    refine ir_uis (pc' := 236) rfl rfl rfl rfl ue_3 usk_3 hT_235 (by omega) (by omega) (rfl) (by omega) (by omega) (fun s1 hT1 r1 o1 => ?_)
    have hF1 := ur_row (k := 3) hF_235 (by decide) usk_3 r1 o1
    have e2 : s1.1 582 1 = w235_582_1 := by rw [r1]; exact w235_582_1e
    have e3 : s1.1 582 6 = w235_582_6 := by rw [r1]; exact w235_582_6e
    have e4 : s1.1 582 10 = w235_582_10 := by rw [r1]; exact w235_582_10e
    have e5 : s1.1 582 12 = w235_582_12 := by rw [r1]; exact w235_582_12e
    have e6 : s1.1 582 2 = w235_582_2 := by rw [r1]; exact w235_582_2e
    have e7 : s1.1 582 4 = w235_582_4 := by rw [r1]; exact w235_582_4e
    have e8 : s1.1 582 8 = ((585 : Nat) : Int) := by rw [r1]; exact w235_582_8e
    refine ir_l (pc' := 237) rfl rfl rfl rfl rfl rfl ?_
    refine ir_l (pc' := 238) rfl rfl rfl rfl rfl rfl ?_
    refine ir_getI (pc' := 241) rfl rfl rfl (hG_at usk_0) rfl (by decide) (by decide) e3 (by omega) (by omega) ?_
    refine ir_cVV (pc' := 244) rfl rfl rfl rfl rfl (Nat.le_of_ble_eq_true rfl) oo_X10_make (hG_at usk_0) (rf_makeR L ys (d + 5) s1 hT1 (w235_582_6) (by omega) (by omega) (by omega)) (fun s10 hr => ?_)
    obtain ⟨hT10, hG10, p10_0⟩ := hr
    have hF10 := ur_trans hF1 hG10 (by decide)
    have e11 : s10.1 582 1 = w235_582_1 := (hG10.1 _ _ usk_0 1 (by decide)).trans e2
    have e12 : s10.1 582 6 = w235_582_6 := (hG10.1 _ _ usk_0 6 (by decide)).trans e3
    have e13 : s10.1 582 12 = w235_582_12 := (hG10.1 _ _ usk_0 12 (by decide)).trans e5
    have e14 : s10.1 582 2 = w235_582_2 := (hG10.1 _ _ usk_0 2 (by decide)).trans e6
    have e15 : s10.1 582 4 = w235_582_4 := (hG10.1 _ _ usk_0 4 (by decide)).trans e7
    have e16 : s10.1 582 8 = ((585 : Nat) : Int) := (hG10.1 _ _ usk_0 8 (by decide)).trans e8
    obtain ⟨z17, z17e, z17l, z17h⟩ := uI_i uf_0_10 usk_0 hT10
    refine ir_l (pc' := 245) rfl rfl rfl rfl rfl rfl ?_
    refine ir_x (pc' := 246) rfl rfl rfl (fun _ => rfl) ?_
    refine ir_getI (pc' := 249) rfl rfl rfl (hG_at usk_0) rfl (by decide) (by decide) e12 (by omega) (by omega) ?_
    refine ir_k (pc' := 250) (v := (0, 1)) rfl rfl rfl (fun _ => rfl) ?_
    refine ir_add (pc' := 251) rfl rfl (by omega) (by omega) ?_
    refine ir_upi (pc' := 254) rfl rfl rfl uf_0_6 rfl usk_0 hT10 rfl (by omega) (by omega) (fun s18 hT18 e18 g18 r18 => ?_)
    have hF18 := ur_put (k := 0) hF10 (by decide) usk_0 g18 r18
    have e19 : s18.1 582 1 = w235_582_1 := (g18 582 1 (fun z => absurd z.2 (by decide))).trans e11
    have e20 : s18.1 582 12 = w235_582_12 := (g18 582 12 (fun z => absurd z.2 (by decide))).trans e13
    have e21 : s18.1 582 2 = w235_582_2 := (g18 582 2 (fun z => absurd z.2 (by decide))).trans e14
    have e22 : s18.1 582 4 = w235_582_4 := (g18 582 4 (fun z => absurd z.2 (by decide))).trans e15
    have e23 : s18.1 582 8 = ((585 : Nat) : Int) := (g18 582 8 (fun z => absurd z.2 (by decide))).trans e16
    have e24 : s18.1 582 10 = z17 := (g18 582 10 (fun z => absurd z.2 (by decide))).trans z17e
    exact ir_vret rfl rfl ⟨rfl, hT18, hF18, (by first | omega | (dsimp only; omega)), (by first | omega | (dsimp only; omega)), (by first | omega | (dsimp only; omega))⟩
  have J206 : ∀ (q206_l1 : Int) (q206_l1l : -1 ≤ q206_l1) (q206_l1h : q206_l1 ≤ 126) (s_206 : im_S) (hT_206 : uI s_206) (hF_206 : ur [(0, 2), (0, 3), (0, 4), (0, 6), (0, 10), (0, 21), (2, 1000), (3, 1000), (4, 1000), (7, 1000), (8, 1000), (9, 1000), (10, 1000), (11, 1000), (12, 1000), (13, 1000), (14, 1000)] s0 s_206) (w206_582_1 : Int) (w206_582_1l : 0 ≤ w206_582_1) (w206_582_1h : w206_582_1 ≤ 400) (w206_582_1e : s_206.1 582 1 = w206_582_1) (w206_582_2 : Int) (w206_582_2l : 0 ≤ w206_582_2) (w206_582_2h : w206_582_2 ≤ 3) (w206_582_2e : s_206.1 582 2 = w206_582_2) (w206_582_4 : Int) (w206_582_4l : 0 ≤ w206_582_4) (w206_582_4h : w206_582_4 ≤ 400) (w206_582_4e : s_206.1 582 4 = w206_582_4) (w206_582_6 : Int) (w206_582_6l : 0 ≤ w206_582_6) (w206_582_6h : w206_582_6 ≤ 9) (w206_582_6e : s_206.1 582 6 = w206_582_6) (w206_582_10 : Int) (w206_582_10l : 0 ≤ w206_582_10) (w206_582_10h : w206_582_10 ≤ 500) (w206_582_10e : s_206.1 582 10 = w206_582_10) (w206_582_12 : Int) (w206_582_12l : 0 ≤ w206_582_12) (w206_582_12h : w206_582_12 ≤ 500) (w206_582_12e : s_206.1 582 12 = w206_582_12) (i206_0 : s0.1 582 4 ≤ w206_582_4) (i206_1 : s0.1 582 2 ≤ w206_582_2) (i206_2 : w206_582_10 + w206_582_12 ≤ w206_582_4 + w206_582_6), ir gG rm_P L ys (d + 6) rm_p_X10_readAtom (206, [(0, (2, ((582 : Nat) : Int))), (1, (0, q206_l1))], [], s_206) (fun r : im_Re => r.1 = none ∧ (uI r.2 ∧ ur [(0, 2), (0, 3), (0, 4), (0, 6), (0, 10), (0, 21), (2, 1000), (3, 1000), (4, 1000), (7, 1000), (8, 1000), (9, 1000), (10, 1000), (11, 1000), (12, 1000), (13, 1000), (14, 1000)] s0 r.2 ∧ s0.1 582 4 ≤ r.2.1 582 4 ∧ s0.1 582 2 ≤ r.2.1 582 2 ∧ r.2.1 582 10 + r.2.1 582 12 ≤ r.2.1 582 4 + r.2.1 582 6)) := by
    intro q206_l1 q206_l1l q206_l1h s_206 hT_206 hF_206 w206_582_1 w206_582_1l w206_582_1h w206_582_1e w206_582_2 w206_582_2l w206_582_2h w206_582_2e w206_582_4 w206_582_4l w206_582_4h w206_582_4e w206_582_6 w206_582_6l w206_582_6h w206_582_6e w206_582_10 w206_582_10l w206_582_10h w206_582_10e w206_582_12 w206_582_12l w206_582_12h w206_582_12e i206_0 i206_1 i206_2
    refine ir_l (pc' := 207) rfl rfl rfl rfl rfl rfl ?_
    refine ir_ugr (pc' := 210) rfl rfl rfl uf_0_8 usk_0 hT_206 (fun b25 b25e b25k => ?_)
    obtain rfl := usg_3 b25k
    refine ir_l (pc' := 211) rfl rfl rfl rfl rfl rfl ?_
    refine ir_getI (pc' := 214) rfl rfl rfl (hG_at usk_0) rfl (by decide) (by decide) w206_582_6e (by omega) (by omega) ?_
    refine ir_l (pc' := 215) rfl rfl rfl rfl rfl rfl ?_
    refine ir_k (pc' := 217) (v := (0, 61)) rfl rfl rfl (fun _ => rfl) ?_
    refine ir_c_ne (pt := 224) (pc' := 220) rfl rfl rfl (fun c26 => ?_) (fun c26 => ?_)
    · refine ir_l (pc' := 225) rfl rfl rfl rfl rfl rfl ?_
      refine ir_k (pc' := 227) (v := (0, 60)) rfl rfl rfl (fun _ => rfl) ?_
      refine ir_c_ne (pt := 234) (pc' := 230) rfl rfl rfl (fun c27 => ?_) (fun c27 => ?_)
      · refine ir_k (pc' := 235) (v := (0, 2)) rfl rfl rfl (fun _ => rfl) ?_
        refine ir_w [(0, (2, ((582 : Nat) : Int)))] ⟨rfl, trivial⟩ ?_
        exact J235 (w206_582_6) (by omega) (by omega) (2) (by omega) (by omega) s_206 hT_206 hF_206 (w206_582_1) (by omega) (by omega) w206_582_1e (w206_582_2) (by omega) (by omega) w206_582_2e (w206_582_4) (by omega) (by omega) w206_582_4e (w206_582_6) (by omega) (by omega) w206_582_6e b25e (w206_582_10) (by omega) (by omega) w206_582_10e (w206_582_12) (by omega) (by omega) w206_582_12e (by omega) (by omega) (by omega)
      · refine ir_k (pc' := 231) (v := (0, 1)) rfl rfl rfl (fun _ => rfl) ?_
        refine ir_goto (pc' := 235) rfl rfl ?_
        refine ir_w [(0, (2, ((582 : Nat) : Int)))] ⟨rfl, trivial⟩ ?_
        exact J235 (w206_582_6) (by omega) (by omega) (1) (by omega) (by omega) s_206 hT_206 hF_206 (w206_582_1) (by omega) (by omega) w206_582_1e (w206_582_2) (by omega) (by omega) w206_582_2e (w206_582_4) (by omega) (by omega) w206_582_4e (w206_582_6) (by omega) (by omega) w206_582_6e b25e (w206_582_10) (by omega) (by omega) w206_582_10e (w206_582_12) (by omega) (by omega) w206_582_12e (by omega) (by omega) (by omega)
    · refine ir_k (pc' := 221) (v := (0, 0)) rfl rfl rfl (fun _ => rfl) ?_
      refine ir_goto (pc' := 235) rfl rfl ?_
      refine ir_w [(0, (2, ((582 : Nat) : Int)))] ⟨rfl, trivial⟩ ?_
      exact J235 (w206_582_6) (by omega) (by omega) (0) (by omega) (by omega) s_206 hT_206 hF_206 (w206_582_1) (by omega) (by omega) w206_582_1e (w206_582_2) (by omega) (by omega) w206_582_2e (w206_582_4) (by omega) (by omega) w206_582_4e (w206_582_6) (by omega) (by omega) w206_582_6e b25e (w206_582_10) (by omega) (by omega) w206_582_10e (w206_582_12) (by omega) (by omega) w206_582_12e (by omega) (by omega) (by omega)
  have J137 : ∀ n : Nat, ∀ (q137_l1 : Int) (q137_l1l : -1 ≤ q137_l1) (q137_l1h : q137_l1 ≤ 126) (q137_l2 : Int) (q137_l2l : 0 ≤ q137_l2) (q137_l2h : q137_l2 ≤ 400) (q137_l3 : Int) (q137_l3l : 0 ≤ q137_l3) (q137_l3h : q137_l3 ≤ 9) (s_137 : im_S) (hT_137 : uI s_137) (hF_137 : ur [(0, 2), (0, 3), (0, 4), (0, 6), (0, 10), (0, 21), (2, 1000), (3, 1000), (4, 1000), (7, 1000), (8, 1000), (9, 1000), (10, 1000), (11, 1000), (12, 1000), (13, 1000), (14, 1000)] s0 s_137) (w137_582_1 : Int) (w137_582_1l : 0 ≤ w137_582_1) (w137_582_1h : w137_582_1 ≤ 400) (w137_582_1e : s_137.1 582 1 = w137_582_1) (w137_582_2 : Int) (w137_582_2l : 0 ≤ w137_582_2) (w137_582_2h : w137_582_2 ≤ 3) (w137_582_2e : s_137.1 582 2 = w137_582_2) (w137_582_4 : Int) (w137_582_4l : 0 ≤ w137_582_4) (w137_582_4h : w137_582_4 ≤ 400) (w137_582_4e : s_137.1 582 4 = w137_582_4) (w137_582_6 : Int) (w137_582_6l : 0 ≤ w137_582_6) (w137_582_6h : w137_582_6 ≤ 9) (w137_582_6e : s_137.1 582 6 = w137_582_6) (w137_582_10 : Int) (w137_582_10l : 0 ≤ w137_582_10) (w137_582_10h : w137_582_10 ≤ 500) (w137_582_10e : s_137.1 582 10 = w137_582_10) (w137_582_12 : Int) (w137_582_12l : 0 ≤ w137_582_12) (w137_582_12h : w137_582_12 ≤ 500) (w137_582_12e : s_137.1 582 12 = w137_582_12) (i137_0 : s0.1 582 4 ≤ w137_582_4) (i137_1 : s0.1 582 2 ≤ w137_582_2) (i137_2 : w137_582_10 + w137_582_12 ≤ w137_582_4 + w137_582_6), (9 + 1 - q137_l3) ≤ (n : Int) → ir gG rm_P L ys (d + 6) rm_p_X10_readAtom (137, [(0, (2, ((582 : Nat) : Int))), (1, (0, q137_l1)), (2, (0, q137_l2)), (3, (0, q137_l3))], [], s_137) (fun r : im_Re => r.1 = none ∧ (uI r.2 ∧ ur [(0, 2), (0, 3), (0, 4), (0, 6), (0, 10), (0, 21), (2, 1000), (3, 1000), (4, 1000), (7, 1000), (8, 1000), (9, 1000), (10, 1000), (11, 1000), (12, 1000), (13, 1000), (14, 1000)] s0 r.2 ∧ s0.1 582 4 ≤ r.2.1 582 4 ∧ s0.1 582 2 ≤ r.2.1 582 2 ∧ r.2.1 582 10 + r.2.1 582 12 ≤ r.2.1 582 4 + r.2.1 582 6)) := by
    intro n
    induction n with
    | zero => intro q137_l1 q137_l1l q137_l1h q137_l2 q137_l2l q137_l2h q137_l3 q137_l3l q137_l3h s_137 hT_137 hF_137 w137_582_1 w137_582_1l w137_582_1h w137_582_1e w137_582_2 w137_582_2l w137_582_2h w137_582_2e w137_582_4 w137_582_4l w137_582_4h w137_582_4e w137_582_6 w137_582_6l w137_582_6h w137_582_6e w137_582_10 w137_582_10l w137_582_10h w137_582_10e w137_582_12 w137_582_12l w137_582_12h w137_582_12e i137_0 i137_1 i137_2 hr; exfalso; omega
    | succ n ih137 =>
      intro q137_l1 q137_l1l q137_l1h q137_l2 q137_l2l q137_l2h q137_l3 q137_l3l q137_l3h s_137 hT_137 hF_137 w137_582_1 w137_582_1l w137_582_1h w137_582_1e w137_582_2 w137_582_2l w137_582_2h w137_582_2e w137_582_4 w137_582_4l w137_582_4h w137_582_4e w137_582_6 w137_582_6l w137_582_6h w137_582_6e w137_582_10 w137_582_10l w137_582_10h w137_582_10e w137_582_12 w137_582_12l w137_582_12h w137_582_12e i137_0 i137_1 i137_2 hr
      have J200 : ∀ (f200_3h : q137_l3 ≤ 8) (s_200 : im_S) (hT_200 : uI s_200) (hF_200 : ur [(0, 2), (0, 3), (0, 4), (0, 6), (0, 10), (0, 21), (2, 1000), (3, 1000), (4, 1000), (7, 1000), (8, 1000), (9, 1000), (10, 1000), (11, 1000), (12, 1000), (13, 1000), (14, 1000)] s0 s_200) (w200_582_1 : Int) (w200_582_1l : 0 ≤ w200_582_1) (w200_582_1h : w200_582_1 ≤ 400) (w200_582_1e : s_200.1 582 1 = w200_582_1) (w200_582_2 : Int) (w200_582_2l : 0 ≤ w200_582_2) (w200_582_2h : w200_582_2 ≤ 3) (w200_582_2e : s_200.1 582 2 = w200_582_2) (w200_582_4 : Int) (w200_582_4l : 0 ≤ w200_582_4) (w200_582_4h : w200_582_4 ≤ 400) (w200_582_4e : s_200.1 582 4 = w200_582_4) (w200_582_6 : Int) (w200_582_6l : 0 ≤ w200_582_6) (w200_582_6h : w200_582_6 ≤ 9) (w200_582_6e : s_200.1 582 6 = w200_582_6) (w200_582_7e : s_200.1 582 7 = ((584 : Nat) : Int)) (w200_582_10 : Int) (w200_582_10l : 0 ≤ w200_582_10) (w200_582_10h : w200_582_10 ≤ 500) (w200_582_10e : s_200.1 582 10 = w200_582_10) (w200_582_12 : Int) (w200_582_12l : 0 ≤ w200_582_12) (w200_582_12h : w200_582_12 ≤ 500) (w200_582_12e : s_200.1 582 12 = w200_582_12) (w200_582_14e : s_200.1 582 14 = ((589 : Nat) : Int)) (i200_0 : s0.1 582 4 ≤ w200_582_4) (i200_1 : s0.1 582 2 ≤ w200_582_2) (i200_2 : w200_582_10 + w200_582_12 ≤ w200_582_4 + w200_582_6), ir gG rm_P L ys (d + 6) rm_p_X10_readAtom (200, [(0, (2, ((582 : Nat) : Int))), (1, (0, q137_l1)), (2, (0, q137_l2)), (3, (0, q137_l3))], [], s_200) (fun r : im_Re => r.1 = none ∧ (uI r.2 ∧ ur [(0, 2), (0, 3), (0, 4), (0, 6), (0, 10), (0, 21), (2, 1000), (3, 1000), (4, 1000), (7, 1000), (8, 1000), (9, 1000), (10, 1000), (11, 1000), (12, 1000), (13, 1000), (14, 1000)] s0 r.2 ∧ s0.1 582 4 ≤ r.2.1 582 4 ∧ s0.1 582 2 ≤ r.2.1 582 2 ∧ r.2.1 582 10 + r.2.1 582 12 ≤ r.2.1 582 4 + r.2.1 582 6)) := by
        intro f200_3h s_200 hT_200 hF_200 w200_582_1 w200_582_1l w200_582_1h w200_582_1e w200_582_2 w200_582_2l w200_582_2h w200_582_2e w200_582_4 w200_582_4l w200_582_4h w200_582_4e w200_582_6 w200_582_6l w200_582_6h w200_582_6e w200_582_7e w200_582_10 w200_582_10l w200_582_10h w200_582_10e w200_582_12 w200_582_12l w200_582_12h w200_582_12e w200_582_14e i200_0 i200_1 i200_2
        refine ir_inc (pc' := 203) rfl rfl rfl rfl rfl (by omega) (by omega) ?_
        refine ir_goto (pc' := 137) rfl rfl ?_
        refine ir_w [(0, (2, ((582 : Nat) : Int))), (1, (0, q137_l1)), (2, (0, q137_l2)), (3, (0, (q137_l3 + 1)))] ⟨rfl, rfl, rfl, rfl, trivial⟩ ?_
        exact ih137 (q137_l1) (by omega) (by omega) (q137_l2) (by omega) (by omega) ((q137_l3 + 1)) (by omega) (by omega) s_200 hT_200 hF_200 (w200_582_1) (by omega) (by omega) w200_582_1e (w200_582_2) (by omega) (by omega) w200_582_2e (w200_582_4) (by omega) (by omega) w200_582_4e (w200_582_6) (by omega) (by omega) w200_582_6e (w200_582_10) (by omega) (by omega) w200_582_10e (w200_582_12) (by omega) (by omega) w200_582_12e (by omega) (by omega) (by omega) (by omega)
      refine ir_l (pc' := 138) rfl rfl rfl rfl rfl rfl ?_
      refine ir_k (pc' := 140) (v := (0, 9)) rfl rfl rfl (fun _ => rfl) ?_
      refine ir_c_ge (pt := 206) (pc' := 143) rfl rfl rfl (fun c28 => ?_) (fun c28 => ?_)
      · refine ir_w [(0, (2, ((582 : Nat) : Int))), (1, (0, q137_l1))] ⟨rfl, rfl, trivial⟩ ?_
        exact J206 (q137_l1) (by omega) (by omega) s_137 hT_137 hF_137 (w137_582_1) (by omega) (by omega) w137_582_1e (w137_582_2) (by omega) (by omega) w137_582_2e (w137_582_4) (by omega) (by omega) w137_582_4e (w137_582_6) (by omega) (by omega) w137_582_6e (w137_582_10) (by omega) (by omega) w137_582_10e (w137_582_12) (by omega) (by omega) w137_582_12e (by omega) (by omega) (by omega)
      · refine ir_l (pc' := 144) rfl rfl rfl rfl rfl rfl ?_
        refine ir_cVI (pc' := 147) rfl rfl rfl rfl rfl (Nat.le_of_ble_eq_true rfl) oo_X10_good (hG_at usk_0) (rf_goodR L ys (d + 5) s_137 hT_137  ) (fun z29 s30 hr => ?_)
        obtain ⟨hT30, hG30, z29l, z29h, p30_0⟩ := hr
        have hF30 := ur_trans hF_137 hG30 (by decide)
        have e31 : s30.1 582 1 = w137_582_1 := (hG30.1 _ _ usk_0 1 (by decide)).trans w137_582_1e
        have e32 : s30.1 582 6 = w137_582_6 := (hG30.1 _ _ usk_0 6 (by decide)).trans w137_582_6e
        have e33 : s30.1 582 10 = w137_582_10 := (hG30.1 _ _ usk_0 10 (by decide)).trans w137_582_10e
        have e34 : s30.1 582 12 = w137_582_12 := (hG30.1 _ _ usk_0 12 (by decide)).trans w137_582_12e
        have e35 : s30.1 582 2 = w137_582_2 := (hG30.1 _ _ usk_0 2 (by decide)).trans w137_582_2e
        have e36 : s30.1 582 4 = w137_582_4 := (hG30.1 _ _ usk_0 4 (by decide)).trans w137_582_4e
        refine ir_z_eq (pt := 206) (pc' := 150) rfl rfl rfl (fun c37 => ?_) (fun c37 => ?_)
        · refine ir_w [(0, (2, ((582 : Nat) : Int))), (1, (0, q137_l1))] ⟨rfl, rfl, trivial⟩ ?_
          exact J206 (q137_l1) (by omega) (by omega) s30 hT30 hF30 (w137_582_1) (by omega) (by omega) e31 (w137_582_2) (by omega) (by omega) e35 (w137_582_4) (by omega) (by omega) e36 (w137_582_6) (by omega) (by omega) e32 (w137_582_10) (by omega) (by omega) e33 (w137_582_12) (by omega) (by omega) e34 (by omega) (by omega) (by omega)
        · refine ir_l (pc' := 151) rfl rfl rfl rfl rfl rfl ?_
          refine ir_ugr (pc' := 154) rfl rfl rfl uf_0_7 usk_0 hT30 (fun b38 b38e b38k => ?_)
          obtain rfl := usg_2 b38k
          refine ir_k (pc' := 156) (v := (0, 9)) rfl rfl rfl (fun _ => rfl) ?_
          refine ir_l (pc' := 157) rfl rfl rfl rfl rfl rfl ?_
          refine ir_getI (pc' := 160) rfl rfl rfl (hG_at usk_0) rfl (by decide) (by decide) e32 (by omega) (by omega) ?_
          refine ir_mul (pc' := 161) rfl rfl (by omega) (by omega) ?_
          refine ir_l (pc' := 162) rfl rfl rfl rfl rfl rfl ?_
          refine ir_add (pc' := 163) rfl rfl (by omega) (by omega) ?_
          refine ir_x (pc' := 164) rfl rfl rfl (fun _ => rfl) ?_
          refine ir_ula (pc' := 165) rfl rfl ue_2 (by decide) usk_2 hT30 (by omega) (by omega) (fun z39 z39e z39l z39h => ?_)
          clear z39e
          refine ir_l (pc' := 166) rfl rfl rfl rfl rfl rfl ?_
          refine ir_ugr (pc' := 169) rfl rfl rfl uf_0_14 usk_0 hT30 (fun b40 b40e b40k => ?_)
          obtain rfl := usg_7 b40k
          refine ir_l (pc' := 170) rfl rfl rfl rfl rfl rfl ?_
          refine ir_ula (pc' := 171) rfl rfl ue_7 (by decide) usk_7 hT30 (by omega) (by omega) (fun z41 z41e z41l z41h => ?_)
          clear z41e
          refine ir_jjA (pc' := 172) rfl rfl rfl rfl (fun z42 z42l z42h => ?_)
          refine ir_uls (pc' := 173) rfl rfl ue_2 usk_2 hT30 (by omega) (by omega) (by omega) (by omega) (fun s43 hT43 r43 o43 => ?_)
          have hF43 := ur_row (k := 2) hF30 (by decide) usk_2 r43 o43
          have e44 : s43.1 582 1 = w137_582_1 := by rw [r43]; exact e31
          have e45 : s43.1 582 6 = w137_582_6 := by rw [r43]; exact e32
          have e46 : s43.1 582 10 = w137_582_10 := by rw [r43]; exact e33
          have e47 : s43.1 582 12 = w137_582_12 := by rw [r43]; exact e34
          have e48 : s43.1 582 2 = w137_582_2 := by rw [r43]; exact e35
          have e49 : s43.1 582 4 = w137_582_4 := by rw [r43]; exact e36
          have e50 : s43.1 582 7 = ((584 : Nat) : Int) := by rw [r43]; exact b38e
          have e51 : s43.1 582 14 = ((589 : Nat) : Int) := by rw [r43]; exact b40e
          refine ir_l (pc' := 174) rfl rfl rfl rfl rfl rfl ?_
          refine ir_l (pc' := 175) rfl rfl rfl rfl rfl rfl ?_
          refine ir_getR (pc' := 178) rfl rfl rfl (hG_at usk_0) rfl e50 ?_
          refine ir_k (pc' := 180) (v := (0, 9)) rfl rfl rfl (fun _ => rfl) ?_
          refine ir_l (pc' := 181) rfl rfl rfl rfl rfl rfl ?_
          refine ir_getI (pc' := 184) rfl rfl rfl (hG_at usk_0) rfl (by decide) (by decide) e45 (by omega) (by omega) ?_
          refine ir_mul (pc' := 185) rfl rfl (by omega) (by omega) ?_
          refine ir_l (pc' := 186) rfl rfl rfl rfl rfl rfl ?_
          refine ir_add (pc' := 187) rfl rfl (by omega) (by omega) ?_
          refine ir_ula (pc' := 188) rfl rfl ue_2 (by decide) usk_2 hT43 (by omega) (by omega) (fun z52 z52e z52l z52h => ?_)
          clear z52e
          refine ir_cVI (pc' := 191) rfl rfl rfl rfl rfl (Nat.le_of_ble_eq_true rfl) oo_X10_isFine (hG_at usk_0) (rf_isFineR L ys (d + 5) s43 hT43 (z52) (by omega) (by omega) ) (fun z53 s54 hr => ?_)
          obtain ⟨hT54, hG54, z53l, z53h⟩ := hr
          have hF54 := ur_trans hF43 hG54 (by decide)
          have e55 : s54.1 582 1 = w137_582_1 := (hG54.1 _ _ usk_0 1 (by decide)).trans e44
          have e56 : s54.1 582 6 = w137_582_6 := (hG54.1 _ _ usk_0 6 (by decide)).trans e45
          have e57 : s54.1 582 10 = w137_582_10 := (hG54.1 _ _ usk_0 10 (by decide)).trans e46
          have e58 : s54.1 582 12 = w137_582_12 := (hG54.1 _ _ usk_0 12 (by decide)).trans e47
          have e59 : s54.1 582 2 = w137_582_2 := (hG54.1 _ _ usk_0 2 (by decide)).trans e48
          have e60 : s54.1 582 4 = w137_582_4 := (hG54.1 _ _ usk_0 4 (by decide)).trans e49
          have e61 : s54.1 582 7 = ((584 : Nat) : Int) := (hG54.1 _ _ usk_0 7 (by decide)).trans e50
          have e62 : s54.1 582 14 = ((589 : Nat) : Int) := (hG54.1 _ _ usk_0 14 (by decide)).trans e51
          refine ir_z_ne (pt := 200) (pc' := 194) rfl rfl rfl (fun c63 => ?_) (fun c63 => ?_)
          · refine ir_w [(0, (2, ((582 : Nat) : Int))), (1, (0, q137_l1)), (2, (0, q137_l2)), (3, (0, q137_l3))] ⟨rfl, rfl, rfl, rfl, trivial⟩ ?_
            exact J200 (by omega) s54 hT54 hF54 (w137_582_1) (by omega) (by omega) e55 (w137_582_2) (by omega) (by omega) e59 (w137_582_4) (by omega) (by omega) e60 (w137_582_6) (by omega) (by omega) e56 e61 (w137_582_10) (by omega) (by omega) e57 (w137_582_12) (by omega) (by omega) e58 e62 (by omega) (by omega) (by omega)
          · refine ir_l (pc' := 195) rfl rfl rfl rfl rfl rfl ?_
            refine ir_k (pc' := 196) (v := (0, 3)) rfl rfl rfl (fun _ => rfl) ?_
            refine ir_l (pc' := 197) rfl rfl rfl rfl rfl rfl ?_
            refine ir_cVV (pc' := 200) rfl rfl rfl rfl rfl (Nat.le_of_ble_eq_true rfl) oo_X10_fail (hG_at usk_0) (rf_failR L ys (d + 5) s54 hT54 (3) (by omega) (by omega) (q137_l2) (by omega) (by omega) ) (fun s65 hr => ?_)
            obtain ⟨hT65, hG65, p65_0, p65_1⟩ := hr
            have hF65 := ur_trans hF54 hG65 (by decide)
            have e66 : s65.1 582 1 = w137_582_1 := (hG65.1 _ _ usk_0 1 (by decide)).trans e55
            have e67 : s65.1 582 6 = w137_582_6 := (hG65.1 _ _ usk_0 6 (by decide)).trans e56
            have e68 : s65.1 582 10 = w137_582_10 := (hG65.1 _ _ usk_0 10 (by decide)).trans e57
            have e69 : s65.1 582 12 = w137_582_12 := (hG65.1 _ _ usk_0 12 (by decide)).trans e58
            have e70 : s65.1 582 4 = w137_582_4 := (hG65.1 _ _ usk_0 4 (by decide)).trans e60
            have e71 : s65.1 582 7 = ((584 : Nat) : Int) := (hG65.1 _ _ usk_0 7 (by decide)).trans e61
            have e72 : s65.1 582 14 = ((589 : Nat) : Int) := (hG65.1 _ _ usk_0 14 (by decide)).trans e62
            obtain ⟨z73, z73e, z73l, z73h⟩ := uI_i uf_0_2 usk_0 hT65
            refine ir_w [(0, (2, ((582 : Nat) : Int))), (1, (0, q137_l1)), (2, (0, q137_l2)), (3, (0, q137_l3))] ⟨rfl, rfl, rfl, rfl, trivial⟩ ?_
            exact J200 (by omega) s65 hT65 hF65 (w137_582_1) (by omega) (by omega) e66 (z73) (by omega) (by omega) z73e (w137_582_4) (by omega) (by omega) e70 (w137_582_6) (by omega) (by omega) e67 e71 (w137_582_10) (by omega) (by omega) e68 (w137_582_12) (by omega) (by omega) e69 e72 (by omega) (by omega) (by omega)
  have J99 : ∀ n : Nat, ∀ (q99_l1 : Int) (q99_l1l : -1 ≤ q99_l1) (q99_l1h : q99_l1 ≤ 126) (q99_l2 : Int) (q99_l2l : 0 ≤ q99_l2) (q99_l2h : q99_l2 ≤ 400) (q99_l3 : Int) (q99_l3l : 0 ≤ q99_l3) (q99_l3h : q99_l3 ≤ 9) (s_99 : im_S) (hT_99 : uI s_99) (hF_99 : ur [(0, 2), (0, 3), (0, 4), (0, 6), (0, 10), (0, 21), (2, 1000), (3, 1000), (4, 1000), (7, 1000), (8, 1000), (9, 1000), (10, 1000), (11, 1000), (12, 1000), (13, 1000), (14, 1000)] s0 s_99) (w99_582_1 : Int) (w99_582_1l : 0 ≤ w99_582_1) (w99_582_1h : w99_582_1 ≤ 400) (w99_582_1e : s_99.1 582 1 = w99_582_1) (w99_582_2 : Int) (w99_582_2l : 0 ≤ w99_582_2) (w99_582_2h : w99_582_2 ≤ 3) (w99_582_2e : s_99.1 582 2 = w99_582_2) (w99_582_4 : Int) (w99_582_4l : 1 ≤ w99_582_4) (w99_582_4h : w99_582_4 ≤ 400) (w99_582_4e : s_99.1 582 4 = w99_582_4) (w99_582_6 : Int) (w99_582_6l : 0 ≤ w99_582_6) (w99_582_6h : w99_582_6 ≤ 9) (w99_582_6e : s_99.1 582 6 = w99_582_6) (w99_582_10 : Int) (w99_582_10l : 0 ≤ w99_582_10) (w99_582_10h : w99_582_10 ≤ 500) (w99_582_10e : s_99.1 582 10 = w99_582_10) (w99_582_12 : Int) (w99_582_12l : 0 ≤ w99_582_12) (w99_582_12h : w99_582_12 ≤ 500) (w99_582_12e : s_99.1 582 12 = w99_582_12) (i99_0 : s0.1 582 4 ≤ w99_582_4) (i99_1 : s0.1 582 2 ≤ w99_582_2) (i99_2 : w99_582_10 + w99_582_12 ≤ w99_582_4 + w99_582_6), (9 + 1 - q99_l3) ≤ (n : Int) → ir gG rm_P L ys (d + 6) rm_p_X10_readAtom (99, [(0, (2, ((582 : Nat) : Int))), (1, (0, q99_l1)), (2, (0, q99_l2)), (3, (0, q99_l3))], [], s_99) (fun r : im_Re => r.1 = none ∧ (uI r.2 ∧ ur [(0, 2), (0, 3), (0, 4), (0, 6), (0, 10), (0, 21), (2, 1000), (3, 1000), (4, 1000), (7, 1000), (8, 1000), (9, 1000), (10, 1000), (11, 1000), (12, 1000), (13, 1000), (14, 1000)] s0 r.2 ∧ s0.1 582 4 ≤ r.2.1 582 4 ∧ s0.1 582 2 ≤ r.2.1 582 2 ∧ r.2.1 582 10 + r.2.1 582 12 ≤ r.2.1 582 4 + r.2.1 582 6)) := by
    intro n
    induction n with
    | zero => intro q99_l1 q99_l1l q99_l1h q99_l2 q99_l2l q99_l2h q99_l3 q99_l3l q99_l3h s_99 hT_99 hF_99 w99_582_1 w99_582_1l w99_582_1h w99_582_1e w99_582_2 w99_582_2l w99_582_2h w99_582_2e w99_582_4 w99_582_4l w99_582_4h w99_582_4e w99_582_6 w99_582_6l w99_582_6h w99_582_6e w99_582_10 w99_582_10l w99_582_10h w99_582_10e w99_582_12 w99_582_12l w99_582_12h w99_582_12e i99_0 i99_1 i99_2 hr; exfalso; omega
    | succ n ih99 =>
      intro q99_l1 q99_l1l q99_l1h q99_l2 q99_l2l q99_l2h q99_l3 q99_l3l q99_l3h s_99 hT_99 hF_99 w99_582_1 w99_582_1l w99_582_1h w99_582_1e w99_582_2 w99_582_2l w99_582_2h w99_582_2e w99_582_4 w99_582_4l w99_582_4h w99_582_4e w99_582_6 w99_582_6l w99_582_6h w99_582_6e w99_582_10 w99_582_10l w99_582_10h w99_582_10e w99_582_12 w99_582_12l w99_582_12h w99_582_12e i99_0 i99_1 i99_2 hr
      refine ir_l (pc' := 100) rfl rfl rfl rfl rfl rfl ?_
      refine ir_k (pc' := 102) (v := (0, 9)) rfl rfl rfl (fun _ => rfl) ?_
      refine ir_c_ge (pt := 131) (pc' := 105) rfl rfl rfl (fun c74 => ?_) (fun c74 => ?_)
      · refine ir_l (pc' := 132) rfl rfl rfl rfl rfl rfl ?_
        refine ir_cVV (pc' := 135) rfl rfl rfl rfl rfl (Nat.le_of_ble_eq_true rfl) oo_X10_readSum (hG_at usk_0) (rf_readSumR L ys d s_99 hT_99  ) (fun s76 hr => ?_)
        obtain ⟨hT76, hG76, p76_0, p76_1⟩ := hr
        have hF76 := ur_trans hF_99 hG76 (by decide)
        have e77 : s76.1 582 1 = w99_582_1 := (hG76.1 _ _ usk_0 1 (by decide)).trans w99_582_1e
        have e78 : s76.1 582 6 = w99_582_6 := (hG76.1 _ _ usk_0 6 (by decide)).trans w99_582_6e
        have e79 : s76.1 582 10 = w99_582_10 := (hG76.1 _ _ usk_0 10 (by decide)).trans w99_582_10e
        have e80 : s76.1 582 12 = w99_582_12 := (hG76.1 _ _ usk_0 12 (by decide)).trans w99_582_12e
        obtain ⟨z81, z81e, z81l, z81h⟩ := uI_i uf_0_2 usk_0 hT76
        obtain ⟨z82, z82e, z82l, z82h⟩ := uI_i uf_0_4 usk_0 hT76
        refine ir_k (pc' := 136) (v := (0, 0)) rfl rfl rfl (fun _ => rfl) ?_
        refine ir_s (pc' := 137) rfl rfl rfl rfl rfl rfl ?_
        refine ir_w [(0, (2, ((582 : Nat) : Int))), (1, (0, q99_l1)), (2, (0, q99_l2)), (3, (0, 0))] ⟨rfl, rfl, rfl, rfl, trivial⟩ ?_
        exact J137 _ (q99_l1) (by omega) (by omega) (q99_l2) (by omega) (by omega) (0) (by omega) (by omega) s76 hT76 hF76 (w99_582_1) (by omega) (by omega) e77 (z81) (by omega) (by omega) z81e (z82) (by omega) (by omega) z82e (w99_582_6) (by omega) (by omega) e78 (w99_582_10) (by omega) (by omega) e79 (w99_582_12) (by omega) (by omega) e80 (by omega) (by omega) (by omega) (Int.self_le_toNat _)
      · refine ir_l (pc' := 106) rfl rfl rfl rfl rfl rfl ?_
        refine ir_ugr (pc' := 109) rfl rfl rfl uf_0_7 usk_0 hT_99 (fun b83 b83e b83k => ?_)
        obtain rfl := usg_2 b83k
        refine ir_k (pc' := 111) (v := (0, 9)) rfl rfl rfl (fun _ => rfl) ?_
        refine ir_l (pc' := 112) rfl rfl rfl rfl rfl rfl ?_
        refine ir_getI (pc' := 115) rfl rfl rfl (hG_at usk_0) rfl (by decide) (by decide) w99_582_6e (by omega) (by omega) ?_
        refine ir_mul (pc' := 116) rfl rfl (by omega) (by omega) ?_
        refine ir_l (pc' := 117) rfl rfl rfl rfl rfl rfl ?_
        refine ir_add (pc' := 118) rfl rfl (by omega) (by omega) ?_
        refine ir_l (pc' := 119) rfl rfl rfl rfl rfl rfl ?_
        refine ir_ugr (pc' := 122) rfl rfl rfl uf_0_14 usk_0 hT_99 (fun b84 b84e b84k => ?_)
        obtain rfl := usg_7 b84k
        refine ir_l (pc' := 123) rfl rfl rfl rfl rfl rfl ?_
        refine ir_ula (pc' := 124) rfl rfl ue_7 (by decide) usk_7 hT_99 (by omega) (by omega) (fun z85 z85e z85l z85h => ?_)
        clear z85e
        refine ir_uls (pc' := 125) rfl rfl ue_2 usk_2 hT_99 (by omega) (by omega) (by omega) (by omega) (fun s86 hT86 r86 o86 => ?_)
        have hF86 := ur_row (k := 2) hF_99 (by decide) usk_2 r86 o86
        have e87 : s86.1 582 1 = w99_582_1 := by rw [r86]; exact w99_582_1e
        have e88 : s86.1 582 6 = w99_582_6 := by rw [r86]; exact w99_582_6e
        have e89 : s86.1 582 10 = w99_582_10 := by rw [r86]; exact w99_582_10e
        have e90 : s86.1 582 12 = w99_582_12 := by rw [r86]; exact w99_582_12e
        have e91 : s86.1 582 2 = w99_582_2 := by rw [r86]; exact w99_582_2e
        have e92 : s86.1 582 4 = w99_582_4 := by rw [r86]; exact w99_582_4e
        have e93 : s86.1 582 7 = ((584 : Nat) : Int) := by rw [r86]; exact b83e
        have e94 : s86.1 582 14 = ((589 : Nat) : Int) := by rw [r86]; exact b84e
        refine ir_inc (pc' := 128) rfl rfl rfl rfl rfl (by omega) (by omega) ?_
        refine ir_goto (pc' := 99) rfl rfl ?_
        refine ir_w [(0, (2, ((582 : Nat) : Int))), (1, (0, q99_l1)), (2, (0, q99_l2)), (3, (0, (q99_l3 + 1)))] ⟨rfl, rfl, rfl, rfl, trivial⟩ ?_
        exact ih99 (q99_l1) (by omega) (by omega) (q99_l2) (by omega) (by omega) ((q99_l3 + 1)) (by omega) (by omega) s86 hT86 hF86 (w99_582_1) (by omega) (by omega) e87 (w99_582_2) (by omega) (by omega) e91 (w99_582_4) (by omega) (by omega) e92 (w99_582_6) (by omega) (by omega) e88 (w99_582_10) (by omega) (by omega) e89 (w99_582_12) (by omega) (by omega) e90 (by omega) (by omega) (by omega) (by omega)
  have J74 : ∀ (q74_l1 : Int) (q74_l1l : -1 ≤ q74_l1) (q74_l1h : q74_l1 ≤ 126) (s_74 : im_S) (hT_74 : uI s_74) (hF_74 : ur [(0, 2), (0, 3), (0, 4), (0, 6), (0, 10), (0, 21), (2, 1000), (3, 1000), (4, 1000), (7, 1000), (8, 1000), (9, 1000), (10, 1000), (11, 1000), (12, 1000), (13, 1000), (14, 1000)] s0 s_74) (w74_582_1 : Int) (w74_582_1l : 0 ≤ w74_582_1) (w74_582_1h : w74_582_1 ≤ 400) (w74_582_1e : s_74.1 582 1 = w74_582_1) (w74_582_2 : Int) (w74_582_2l : 0 ≤ w74_582_2) (w74_582_2h : w74_582_2 ≤ 3) (w74_582_2e : s_74.1 582 2 = w74_582_2) (w74_582_4 : Int) (w74_582_4l : 0 ≤ w74_582_4) (w74_582_4h : w74_582_4 ≤ 400) (w74_582_4e : s_74.1 582 4 = w74_582_4) (w74_582_6 : Int) (w74_582_6l : 0 ≤ w74_582_6) (w74_582_6h : w74_582_6 ≤ 10) (w74_582_6e : s_74.1 582 6 = w74_582_6) (w74_582_10 : Int) (w74_582_10l : 0 ≤ w74_582_10) (w74_582_10h : w74_582_10 ≤ 500) (w74_582_10e : s_74.1 582 10 = w74_582_10) (w74_582_12 : Int) (w74_582_12l : 0 ≤ w74_582_12) (w74_582_12h : w74_582_12 ≤ 500) (w74_582_12e : s_74.1 582 12 = w74_582_12) (i74_0 : (w74_582_6 ≤ 9 ∨ 1 ≤ w74_582_2)) (i74_1 : (1 ≤ w74_582_2 ∨ w74_582_4 < w74_582_1)) (i74_2 : s0.1 582 4 ≤ w74_582_4) (i74_3 : s0.1 582 2 ≤ w74_582_2) (i74_4 : w74_582_10 + w74_582_12 ≤ w74_582_4 + w74_582_6), ir gG rm_P L ys (d + 6) rm_p_X10_readAtom (74, [(0, (2, ((582 : Nat) : Int))), (1, (0, q74_l1))], [], s_74) (fun r : im_Re => r.1 = none ∧ (uI r.2 ∧ ur [(0, 2), (0, 3), (0, 4), (0, 6), (0, 10), (0, 21), (2, 1000), (3, 1000), (4, 1000), (7, 1000), (8, 1000), (9, 1000), (10, 1000), (11, 1000), (12, 1000), (13, 1000), (14, 1000)] s0 r.2 ∧ s0.1 582 4 ≤ r.2.1 582 4 ∧ s0.1 582 2 ≤ r.2.1 582 2 ∧ r.2.1 582 10 + r.2.1 582 12 ≤ r.2.1 582 4 + r.2.1 582 6)) := by
    intro q74_l1 q74_l1l q74_l1h s_74 hT_74 hF_74 w74_582_1 w74_582_1l w74_582_1h w74_582_1e w74_582_2 w74_582_2l w74_582_2h w74_582_2e w74_582_4 w74_582_4l w74_582_4h w74_582_4e w74_582_6 w74_582_6l w74_582_6h w74_582_6e w74_582_10 w74_582_10l w74_582_10h w74_582_10e w74_582_12 w74_582_12l w74_582_12h w74_582_12e i74_0 i74_1 i74_2 i74_3 i74_4
    refine ir_l (pc' := 75) rfl rfl rfl rfl rfl rfl ?_
    refine ir_cVI (pc' := 78) rfl rfl rfl rfl rfl (Nat.le_of_ble_eq_true rfl) oo_X10_good (hG_at usk_0) (rf_goodR L ys (d + 5) s_74 hT_74  ) (fun z95 s96 hr => ?_)
    obtain ⟨hT96, hG96, z95l, z95h, p96_0⟩ := hr
    have hF96 := ur_trans hF_74 hG96 (by decide)
    have e97 : s96.1 582 1 = w74_582_1 := (hG96.1 _ _ usk_0 1 (by decide)).trans w74_582_1e
    have e98 : s96.1 582 6 = w74_582_6 := (hG96.1 _ _ usk_0 6 (by decide)).trans w74_582_6e
    have e99 : s96.1 582 10 = w74_582_10 := (hG96.1 _ _ usk_0 10 (by decide)).trans w74_582_10e
    have e100 : s96.1 582 12 = w74_582_12 := (hG96.1 _ _ usk_0 12 (by decide)).trans w74_582_12e
    have e101 : s96.1 582 4 = w74_582_4 := (hG96.1 _ _ usk_0 4 (by decide)).trans w74_582_4e
    have e102 : s96.1 582 2 = w74_582_2 := (hG96.1 _ _ usk_0 2 (by decide)).trans w74_582_2e
    refine ir_z_ne (pt := 82) (pc' := 81) rfl rfl rfl (fun c103 => ?_) (fun c103 => ?_)
    · refine ir_l (pc' := 83) rfl rfl rfl rfl rfl rfl ?_
      refine ir_getI (pc' := 86) rfl rfl rfl (hG_at usk_0) rfl (by decide) (by decide) e101 (by omega) (by omega) ?_
      refine ir_s (pc' := 87) rfl rfl rfl rfl rfl rfl ?_
      refine ir_l (pc' := 88) rfl rfl rfl rfl rfl rfl ?_
      refine ir_x (pc' := 89) rfl rfl rfl (fun _ => rfl) ?_
      refine ir_getI (pc' := 92) rfl rfl rfl (hG_at usk_0) rfl (by decide) (by decide) e101 (by omega) (by omega) ?_
      refine ir_k (pc' := 93) (v := (0, 1)) rfl rfl rfl (fun _ => rfl) ?_
      refine ir_add (pc' := 94) rfl rfl (by omega) (by omega) ?_
      refine ir_upi (pc' := 97) rfl rfl rfl uf_0_4 rfl usk_0 hT96 rfl (by omega) (by omega) (fun s104 hT104 e104 g104 r104 => ?_)
      have hF104 := ur_put (k := 0) hF96 (by decide) usk_0 g104 r104
      have e105 : s104.1 582 1 = w74_582_1 := (g104 582 1 (fun z => absurd z.2 (by decide))).trans e97
      have e106 : s104.1 582 6 = w74_582_6 := (g104 582 6 (fun z => absurd z.2 (by decide))).trans e98
      have e107 : s104.1 582 10 = w74_582_10 := (g104 582 10 (fun z => absurd z.2 (by decide))).trans e99
      have e108 : s104.1 582 12 = w74_582_12 := (g104 582 12 (fun z => absurd z.2 (by decide))).trans e100
      have e109 : s104.1 582 2 = w74_582_2 := (g104 582 2 (fun z => absurd z.2 (by decide))).trans e102
      refine ir_k (pc' := 98) (v := (0, 0)) rfl rfl rfl (fun _ => rfl) ?_
      refine ir_s (pc' := 99) rfl rfl rfl rfl rfl rfl ?_
      refine ir_w [(0, (2, ((582 : Nat) : Int))), (1, (0, q74_l1)), (2, (0, w74_582_4)), (3, (0, 0))] ⟨rfl, rfl, rfl, rfl, trivial⟩ ?_
      exact J99 _ (q74_l1) (by omega) (by omega) (w74_582_4) (by omega) (by omega) (0) (by omega) (by omega) s104 hT104 hF104 (w74_582_1) (by omega) (by omega) e105 (w74_582_2) (by omega) (by omega) e109 ((w74_582_4 + 1)) (by omega) (by omega) e104 (w74_582_6) (by omega) (by omega) e106 (w74_582_10) (by omega) (by omega) e107 (w74_582_12) (by omega) (by omega) e108 (by omega) (by omega) (by omega) (Int.self_le_toNat _)
    · exact ir_vret rfl rfl ⟨rfl, hT96, hF96, (by first | omega | (dsimp only; omega)), (by first | omega | (dsimp only; omega)), (by first | omega | (dsimp only; omega))⟩
  have J49 : ∀ (q49_l1 : Int) (q49_l1l : -1 ≤ q49_l1) (q49_l1h : q49_l1 ≤ 126) (s_49 : im_S) (hT_49 : uI s_49) (hF_49 : ur [(0, 2), (0, 3), (0, 4), (0, 6), (0, 10), (0, 21), (2, 1000), (3, 1000), (4, 1000), (7, 1000), (8, 1000), (9, 1000), (10, 1000), (11, 1000), (12, 1000), (13, 1000), (14, 1000)] s0 s_49) (w49_582_1 : Int) (w49_582_1l : 0 ≤ w49_582_1) (w49_582_1h : w49_582_1 ≤ 400) (w49_582_1e : s_49.1 582 1 = w49_582_1) (w49_582_2 : Int) (w49_582_2l : 0 ≤ w49_582_2) (w49_582_2h : w49_582_2 ≤ 3) (w49_582_2e : s_49.1 582 2 = w49_582_2) (w49_582_4 : Int) (w49_582_4l : 0 ≤ w49_582_4) (w49_582_4h : w49_582_4 ≤ 400) (w49_582_4e : s_49.1 582 4 = w49_582_4) (w49_582_6 : Int) (w49_582_6l : 0 ≤ w49_582_6) (w49_582_6h : w49_582_6 ≤ 10) (w49_582_6e : s_49.1 582 6 = w49_582_6) (w49_582_10 : Int) (w49_582_10l : 0 ≤ w49_582_10) (w49_582_10h : w49_582_10 ≤ 500) (w49_582_10e : s_49.1 582 10 = w49_582_10) (w49_582_12 : Int) (w49_582_12l : 0 ≤ w49_582_12) (w49_582_12h : w49_582_12 ≤ 500) (w49_582_12e : s_49.1 582 12 = w49_582_12) (i49_0 : (1 ≤ w49_582_2 ∨ w49_582_4 < w49_582_1)) (i49_1 : s0.1 582 4 ≤ w49_582_4) (i49_2 : s0.1 582 2 ≤ w49_582_2) (i49_3 : w49_582_10 + w49_582_12 ≤ w49_582_4 + w49_582_6), ir gG rm_P L ys (d + 6) rm_p_X10_readAtom (49, [(0, (2, ((582 : Nat) : Int))), (1, (0, q49_l1))], [], s_49) (fun r : im_Re => r.1 = none ∧ (uI r.2 ∧ ur [(0, 2), (0, 3), (0, 4), (0, 6), (0, 10), (0, 21), (2, 1000), (3, 1000), (4, 1000), (7, 1000), (8, 1000), (9, 1000), (10, 1000), (11, 1000), (12, 1000), (13, 1000), (14, 1000)] s0 r.2 ∧ s0.1 582 4 ≤ r.2.1 582 4 ∧ s0.1 582 2 ≤ r.2.1 582 2 ∧ r.2.1 582 10 + r.2.1 582 12 ≤ r.2.1 582 4 + r.2.1 582 6)) := by
    intro q49_l1 q49_l1l q49_l1h s_49 hT_49 hF_49 w49_582_1 w49_582_1l w49_582_1h w49_582_1e w49_582_2 w49_582_2l w49_582_2h w49_582_2e w49_582_4 w49_582_4l w49_582_4h w49_582_4e w49_582_6 w49_582_6l w49_582_6h w49_582_6e w49_582_10 w49_582_10l w49_582_10h w49_582_10e w49_582_12 w49_582_12l w49_582_12h w49_582_12e i49_0 i49_1 i49_2 i49_3
    refine ir_l (pc' := 50) rfl rfl rfl rfl rfl rfl ?_
    refine ir_cVI (pc' := 53) rfl rfl rfl rfl rfl (Nat.le_of_ble_eq_true rfl) oo_X10_good (hG_at usk_0) (rf_goodR L ys (d + 5) s_49 hT_49  ) (fun z110 s111 hr => ?_)
    obtain ⟨hT111, hG111, z110l, z110h, p111_0⟩ := hr
    have hF111 := ur_trans hF_49 hG111 (by decide)
    have e112 : s111.1 582 1 = w49_582_1 := (hG111.1 _ _ usk_0 1 (by decide)).trans w49_582_1e
    have e113 : s111.1 582 6 = w49_582_6 := (hG111.1 _ _ usk_0 6 (by decide)).trans w49_582_6e
    have e114 : s111.1 582 10 = w49_582_10 := (hG111.1 _ _ usk_0 10 (by decide)).trans w49_582_10e
    have e115 : s111.1 582 12 = w49_582_12 := (hG111.1 _ _ usk_0 12 (by decide)).trans w49_582_12e
    have e116 : s111.1 582 2 = w49_582_2 := (hG111.1 _ _ usk_0 2 (by decide)).trans w49_582_2e
    have e117 : s111.1 582 4 = w49_582_4 := (hG111.1 _ _ usk_0 4 (by decide)).trans w49_582_4e
    refine ir_z_eq (pt := 74) (pc' := 56) rfl rfl rfl (fun c118 => ?_) (fun c118 => ?_)
    · refine ir_w [(0, (2, ((582 : Nat) : Int))), (1, (0, q49_l1))] ⟨rfl, rfl, trivial⟩ ?_
      exact J74 (q49_l1) (by omega) (by omega) s111 hT111 hF111 (w49_582_1) (by omega) (by omega) e112 (w49_582_2) (by omega) (by omega) e116 (w49_582_4) (by omega) (by omega) e117 (w49_582_6) (by omega) (by omega) e113 (w49_582_10) (by omega) (by omega) e114 (w49_582_12) (by omega) (by omega) e115 (by omega) (by omega) (by omega) (by omega) (by omega)
    · refine ir_l (pc' := 57) rfl rfl rfl rfl rfl rfl ?_
      refine ir_getI (pc' := 60) rfl rfl rfl (hG_at usk_0) rfl (by decide) (by decide) e113 (by omega) (by omega) ?_
      refine ir_k (pc' := 62) (v := (0, 10)) rfl rfl rfl (fun _ => rfl) ?_
      refine ir_c_ne (pt := 74) (pc' := 65) rfl rfl rfl (fun c119 => ?_) (fun c119 => ?_)
      · refine ir_w [(0, (2, ((582 : Nat) : Int))), (1, (0, q49_l1))] ⟨rfl, rfl, trivial⟩ ?_
        exact J74 (q49_l1) (by omega) (by omega) s111 hT111 hF111 (w49_582_1) (by omega) (by omega) e112 (w49_582_2) (by omega) (by omega) e116 (w49_582_4) (by omega) (by omega) e117 (w49_582_6) (by omega) (by omega) e113 (w49_582_10) (by omega) (by omega) e114 (w49_582_12) (by omega) (by omega) e115 (by omega) (by omega) (by omega) (by omega) (by omega)
      · refine ir_l (pc' := 66) rfl rfl rfl rfl rfl rfl ?_
        refine ir_k (pc' := 67) (v := (0, 3)) rfl rfl rfl (fun _ => rfl) ?_
        refine ir_l (pc' := 68) rfl rfl rfl rfl rfl rfl ?_
        refine ir_getI (pc' := 71) rfl rfl rfl (hG_at usk_0) rfl (by decide) (by decide) e117 (by omega) (by omega) ?_
        refine ir_cVV (pc' := 74) rfl rfl rfl rfl rfl (Nat.le_of_ble_eq_true rfl) oo_X10_fail (hG_at usk_0) (rf_failR L ys (d + 5) s111 hT111 (3) (by omega) (by omega) (w49_582_4) (by omega) (by omega) ) (fun s121 hr => ?_)
        obtain ⟨hT121, hG121, p121_0, p121_1⟩ := hr
        have hF121 := ur_trans hF111 hG121 (by decide)
        have e122 : s121.1 582 1 = w49_582_1 := (hG121.1 _ _ usk_0 1 (by decide)).trans e112
        have e123 : s121.1 582 6 = w49_582_6 := (hG121.1 _ _ usk_0 6 (by decide)).trans e113
        have e124 : s121.1 582 10 = w49_582_10 := (hG121.1 _ _ usk_0 10 (by decide)).trans e114
        have e125 : s121.1 582 12 = w49_582_12 := (hG121.1 _ _ usk_0 12 (by decide)).trans e115
        have e126 : s121.1 582 4 = w49_582_4 := (hG121.1 _ _ usk_0 4 (by decide)).trans e117
        obtain ⟨z127, z127e, z127l, z127h⟩ := uI_i uf_0_2 usk_0 hT121
        refine ir_w [(0, (2, ((582 : Nat) : Int))), (1, (0, q49_l1))] ⟨rfl, rfl, trivial⟩ ?_
        exact J74 (q49_l1) (by omega) (by omega) s121 hT121 hF121 (w49_582_1) (by omega) (by omega) e122 (z127) (by omega) (by omega) z127e (w49_582_4) (by omega) (by omega) e126 (w49_582_6) (by omega) (by omega) e123 (w49_582_10) (by omega) (by omega) e124 (w49_582_12) (by omega) (by omega) e125 (by omega) (by omega) (by omega) (by omega) (by omega)
  have J19 : ∀ (q19_s0 : Int) (q19_s0l : -1 ≤ q19_s0) (q19_s0h : q19_s0 ≤ 126) (s_19 : im_S) (hT_19 : uI s_19) (hF_19 : ur [(0, 2), (0, 3), (0, 4), (0, 6), (0, 10), (0, 21), (2, 1000), (3, 1000), (4, 1000), (7, 1000), (8, 1000), (9, 1000), (10, 1000), (11, 1000), (12, 1000), (13, 1000), (14, 1000)] s0 s_19) (w19_582_1 : Int) (w19_582_1l : 0 ≤ w19_582_1) (w19_582_1h : w19_582_1 ≤ 400) (w19_582_1e : s_19.1 582 1 = w19_582_1) (w19_582_2 : Int) (w19_582_2l : 0 ≤ w19_582_2) (w19_582_2h : w19_582_2 ≤ 3) (w19_582_2e : s_19.1 582 2 = w19_582_2) (w19_582_4 : Int) (w19_582_4l : 0 ≤ w19_582_4) (w19_582_4h : w19_582_4 ≤ 400) (w19_582_4e : s_19.1 582 4 = w19_582_4) (w19_582_6 : Int) (w19_582_6l : 0 ≤ w19_582_6) (w19_582_6h : w19_582_6 ≤ 10) (w19_582_6e : s_19.1 582 6 = w19_582_6) (w19_582_10 : Int) (w19_582_10l : 0 ≤ w19_582_10) (w19_582_10h : w19_582_10 ≤ 500) (w19_582_10e : s_19.1 582 10 = w19_582_10) (w19_582_12 : Int) (w19_582_12l : 0 ≤ w19_582_12) (w19_582_12h : w19_582_12 ≤ 500) (w19_582_12e : s_19.1 582 12 = w19_582_12) (i19_0 : (q19_s0 = -1 ∨ w19_582_4 < w19_582_1)) (i19_1 : s0.1 582 4 ≤ w19_582_4) (i19_2 : s0.1 582 2 ≤ w19_582_2) (i19_3 : w19_582_10 + w19_582_12 ≤ w19_582_4 + w19_582_6), ir gG rm_P L ys (d + 6) rm_p_X10_readAtom (19, [(0, (2, ((582 : Nat) : Int)))], [(0, q19_s0)], s_19) (fun r : im_Re => r.1 = none ∧ (uI r.2 ∧ ur [(0, 2), (0, 3), (0, 4), (0, 6), (0, 10), (0, 21), (2, 1000), (3, 1000), (4, 1000), (7, 1000), (8, 1000), (9, 1000), (10, 1000), (11, 1000), (12, 1000), (13, 1000), (14, 1000)] s0 r.2 ∧ s0.1 582 4 ≤ r.2.1 582 4 ∧ s0.1 582 2 ≤ r.2.1 582 2 ∧ r.2.1 582 10 + r.2.1 582 12 ≤ r.2.1 582 4 + r.2.1 582 6)) := by
    intro q19_s0 q19_s0l q19_s0h s_19 hT_19 hF_19 w19_582_1 w19_582_1l w19_582_1h w19_582_1e w19_582_2 w19_582_2l w19_582_2h w19_582_2e w19_582_4 w19_582_4l w19_582_4h w19_582_4e w19_582_6 w19_582_6l w19_582_6h w19_582_6e w19_582_10 w19_582_10l w19_582_10h w19_582_10e w19_582_12 w19_582_12l w19_582_12h w19_582_12e i19_0 i19_1 i19_2 i19_3
    refine ir_s (pc' := 20) rfl rfl rfl rfl rfl rfl ?_
    refine ir_l (pc' := 21) rfl rfl rfl rfl rfl rfl ?_
    refine ir_cVI (pc' := 24) rfl rfl rfl rfl rfl (Nat.le_of_ble_eq_true rfl) oo_X10_good (hG_at usk_0) (rf_goodR L ys (d + 5) s_19 hT_19  ) (fun z128 s129 hr => ?_)
    obtain ⟨hT129, hG129, z128l, z128h, p129_0⟩ := hr
    have hF129 := ur_trans hF_19 hG129 (by decide)
    have e130 : s129.1 582 1 = w19_582_1 := (hG129.1 _ _ usk_0 1 (by decide)).trans w19_582_1e
    have e131 : s129.1 582 6 = w19_582_6 := (hG129.1 _ _ usk_0 6 (by decide)).trans w19_582_6e
    have e132 : s129.1 582 10 = w19_582_10 := (hG129.1 _ _ usk_0 10 (by decide)).trans w19_582_10e
    have e133 : s129.1 582 12 = w19_582_12 := (hG129.1 _ _ usk_0 12 (by decide)).trans w19_582_12e
    have e134 : s129.1 582 2 = w19_582_2 := (hG129.1 _ _ usk_0 2 (by decide)).trans w19_582_2e
    have e135 : s129.1 582 4 = w19_582_4 := (hG129.1 _ _ usk_0 4 (by decide)).trans w19_582_4e
    refine ir_z_eq (pt := 49) (pc' := 27) rfl rfl rfl (fun c136 => ?_) (fun c136 => ?_)
    · refine ir_w [(0, (2, ((582 : Nat) : Int))), (1, (0, q19_s0))] ⟨rfl, rfl, trivial⟩ ?_
      exact J49 (q19_s0) (by omega) (by omega) s129 hT129 hF129 (w19_582_1) (by omega) (by omega) e130 (w19_582_2) (by omega) (by omega) e134 (w19_582_4) (by omega) (by omega) e135 (w19_582_6) (by omega) (by omega) e131 (w19_582_10) (by omega) (by omega) e132 (w19_582_12) (by omega) (by omega) e133 (by omega) (by omega) (by omega) (by omega)
    · refine ir_l (pc' := 28) rfl rfl rfl rfl rfl rfl ?_
      refine ir_k (pc' := 30) (v := (0, 61)) rfl rfl rfl (fun _ => rfl) ?_
      refine ir_c_eq (pt := 49) (pc' := 33) rfl rfl rfl (fun c137 => ?_) (fun c137 => ?_)
      · refine ir_w [(0, (2, ((582 : Nat) : Int))), (1, (0, q19_s0))] ⟨rfl, rfl, trivial⟩ ?_
        exact J49 (q19_s0) (by omega) (by omega) s129 hT129 hF129 (w19_582_1) (by omega) (by omega) e130 (w19_582_2) (by omega) (by omega) e134 (w19_582_4) (by omega) (by omega) e135 (w19_582_6) (by omega) (by omega) e131 (w19_582_10) (by omega) (by omega) e132 (w19_582_12) (by omega) (by omega) e133 (by omega) (by omega) (by omega) (by omega)
      · refine ir_l (pc' := 34) rfl rfl rfl rfl rfl rfl ?_
        refine ir_k (pc' := 36) (v := (0, 60)) rfl rfl rfl (fun _ => rfl) ?_
        refine ir_c_eq (pt := 49) (pc' := 39) rfl rfl rfl (fun c138 => ?_) (fun c138 => ?_)
        · refine ir_w [(0, (2, ((582 : Nat) : Int))), (1, (0, q19_s0))] ⟨rfl, rfl, trivial⟩ ?_
          exact J49 (q19_s0) (by omega) (by omega) s129 hT129 hF129 (w19_582_1) (by omega) (by omega) e130 (w19_582_2) (by omega) (by omega) e134 (w19_582_4) (by omega) (by omega) e135 (w19_582_6) (by omega) (by omega) e131 (w19_582_10) (by omega) (by omega) e132 (w19_582_12) (by omega) (by omega) e133 (by omega) (by omega) (by omega) (by omega)
        · refine ir_l (pc' := 40) rfl rfl rfl rfl rfl rfl ?_
          refine ir_k (pc' := 42) (v := (0, 62)) rfl rfl rfl (fun _ => rfl) ?_
          refine ir_c_eq (pt := 49) (pc' := 45) rfl rfl rfl (fun c139 => ?_) (fun c139 => ?_)
          · refine ir_w [(0, (2, ((582 : Nat) : Int))), (1, (0, q19_s0))] ⟨rfl, rfl, trivial⟩ ?_
            exact J49 (q19_s0) (by omega) (by omega) s129 hT129 hF129 (w19_582_1) (by omega) (by omega) e130 (w19_582_2) (by omega) (by omega) e134 (w19_582_4) (by omega) (by omega) e135 (w19_582_6) (by omega) (by omega) e131 (w19_582_10) (by omega) (by omega) e132 (w19_582_12) (by omega) (by omega) e133 (by omega) (by omega) (by omega) (by omega)
          · refine ir_l (pc' := 46) rfl rfl rfl rfl rfl rfl ?_
            refine ir_cVV (pc' := 49) rfl rfl rfl rfl rfl (Nat.le_of_ble_eq_true rfl) oo_X10_cannot (hG_at usk_0) (rf_cannotR L ys (d + 3) s129 hT129  ) (fun s141 hr => ?_)
            obtain ⟨hT141, hG141, p141_0, p141_1, p141_2⟩ := hr
            have hF141 := ur_trans hF129 hG141 (by decide)
            have e142 : s141.1 582 1 = w19_582_1 := (hG141.1 _ _ usk_0 1 (by decide)).trans e130
            have e143 : s141.1 582 6 = w19_582_6 := (hG141.1 _ _ usk_0 6 (by decide)).trans e131
            have e144 : s141.1 582 10 = w19_582_10 := (hG141.1 _ _ usk_0 10 (by decide)).trans e132
            have e145 : s141.1 582 12 = w19_582_12 := (hG141.1 _ _ usk_0 12 (by decide)).trans e133
            obtain ⟨z146, z146e, z146l, z146h⟩ := uI_i uf_0_2 usk_0 hT141
            obtain ⟨z147, z147e, z147l, z147h⟩ := uI_i uf_0_4 usk_0 hT141
            refine ir_w [(0, (2, ((582 : Nat) : Int))), (1, (0, q19_s0))] ⟨rfl, rfl, trivial⟩ ?_
            exact J49 (q19_s0) (by omega) (by omega) s141 hT141 hF141 (w19_582_1) (by omega) (by omega) e142 (z146) (by omega) (by omega) z146e (z147) (by omega) (by omega) z147e (w19_582_6) (by omega) (by omega) e143 (w19_582_10) (by omega) (by omega) e144 (w19_582_12) (by omega) (by omega) e145 (by omega) (by omega) (by omega) (by omega)
  obtain ⟨z148, z148e, z148l, z148h⟩ := uI_i uf_0_1 usk_0 hT0
  obtain ⟨z149, z149e, z149l, z149h⟩ := uI_i uf_0_2 usk_0 hT0
  obtain ⟨z150, z150e, z150l, z150h⟩ := uI_i uf_0_4 usk_0 hT0
  obtain ⟨z151, z151e, z151l, z151h⟩ := uI_i uf_0_6 usk_0 hT0
  obtain ⟨z152, z152e, z152l, z152h⟩ := uI_i uf_0_10 usk_0 hT0
  obtain ⟨z153, z153e, z153l, z153h⟩ := uI_i uf_0_12 usk_0 hT0
  refine ir_l (pc' := 1) rfl rfl rfl rfl rfl rfl ?_
  refine ir_cVV (pc' := 4) rfl rfl rfl rfl rfl (Nat.le_of_ble_eq_true rfl) oo_X10_readSum (hG_at usk_0) (rf_readSumR L ys d s0 hT0  ) (fun s155 hr => ?_)
  obtain ⟨hT155, hG155, p155_0, p155_1⟩ := hr
  have hF155 := ur_trans hF0 hG155 (by decide)
  have e156 : s155.1 582 1 = z148 := (hG155.1 _ _ usk_0 1 (by decide)).trans z148e
  have e157 : s155.1 582 6 = z151 := (hG155.1 _ _ usk_0 6 (by decide)).trans z151e
  have e158 : s155.1 582 10 = z152 := (hG155.1 _ _ usk_0 10 (by decide)).trans z152e
  have e159 : s155.1 582 12 = z153 := (hG155.1 _ _ usk_0 12 (by decide)).trans z153e
  obtain ⟨z160, z160e, z160l, z160h⟩ := uI_i uf_0_2 usk_0 hT155
  obtain ⟨z161, z161e, z161l, z161h⟩ := uI_i uf_0_4 usk_0 hT155
  refine ir_l (pc' := 5) rfl rfl rfl rfl rfl rfl ?_
  refine ir_cVI (pc' := 8) rfl rfl rfl rfl rfl (Nat.le_of_ble_eq_true rfl) oo_X10_good (hG_at usk_0) (rf_goodR L ys (d + 5) s155 hT155  ) (fun z162 s163 hr => ?_)
  obtain ⟨hT163, hG163, z162l, z162h, p163_0⟩ := hr
  have hF163 := ur_trans hF155 hG163 (by decide)
  have e164 : s163.1 582 1 = z148 := (hG163.1 _ _ usk_0 1 (by decide)).trans e156
  have e165 : s163.1 582 6 = z151 := (hG163.1 _ _ usk_0 6 (by decide)).trans e157
  have e166 : s163.1 582 10 = z152 := (hG163.1 _ _ usk_0 10 (by decide)).trans e158
  have e167 : s163.1 582 12 = z153 := (hG163.1 _ _ usk_0 12 (by decide)).trans e159
  have e168 : s163.1 582 2 = z160 := (hG163.1 _ _ usk_0 2 (by decide)).trans z160e
  have e169 : s163.1 582 4 = z161 := (hG163.1 _ _ usk_0 4 (by decide)).trans z161e
  refine ir_z_eq (pt := 18) (pc' := 11) rfl rfl rfl (fun c170 => ?_) (fun c170 => ?_)
  · refine ir_k (pc' := 19) (v := (0, (-1))) rfl rfl rfl (fun _ => rfl) ?_
    refine ir_w [(0, (2, ((582 : Nat) : Int)))] ⟨rfl, trivial⟩ ?_
    exact J19 ((-1)) (by omega) (by omega) s163 hT163 hF163 (z148) (by omega) (by omega) e164 (z160) (by omega) (by omega) e168 (z161) (by omega) (by omega) e169 (z151) (by omega) (by omega) e165 (z152) (by omega) (by omega) e166 (z153) (by omega) (by omega) e167 (by omega) (by omega) (by omega) (by omega)
  · refine ir_l (pc' := 12) rfl rfl rfl rfl rfl rfl ?_
    refine ir_cVI (pc' := 15) rfl rfl rfl rfl rfl (Nat.le_of_ble_eq_true rfl) oo_X10_peek (hG_at usk_0) (rf_peekR L ys (d + 5) s163 hT163  ) (fun z171 s172 hr => ?_)
    obtain ⟨hT172, hG172, z171l, z171h, p172_0, p172_1⟩ := hr
    have hF172 := ur_trans hF163 hG172 (by decide)
    have e173 : s172.1 582 1 = z148 := (hG172.1 _ _ usk_0 1 (by decide)).trans e164
    have e174 : s172.1 582 6 = z151 := (hG172.1 _ _ usk_0 6 (by decide)).trans e165
    have e175 : s172.1 582 10 = z152 := (hG172.1 _ _ usk_0 10 (by decide)).trans e166
    have e176 : s172.1 582 12 = z153 := (hG172.1 _ _ usk_0 12 (by decide)).trans e167
    have e177 : s172.1 582 2 = z160 := (hG172.1 _ _ usk_0 2 (by decide)).trans e168
    obtain ⟨z178, z178e, z178l, z178h⟩ := uI_i uf_0_4 usk_0 hT172
    refine ir_goto (pc' := 19) rfl rfl ?_
    refine ir_w [(0, (2, ((582 : Nat) : Int)))] ⟨rfl, trivial⟩ ?_
    exact J19 (z171) (by omega) (by omega) s172 hT172 hF172 (z148) (by omega) (by omega) e173 (z160) (by omega) (by omega) e177 (z178) (by omega) (by omega) z178e (z151) (by omega) (by omega) e174 (z152) (by omega) (by omega) e175 (z153) (by omega) (by omega) e176 (by omega) (by omega) (by omega) (by omega)
theorem rf_signR (L : Nat) (ys : Nat → Int32) (d : Nat) (s0 : im_S) (hT0 : uI s0) (x1 : Int) (x1l : -2147483648 ≤ x1) (x1h : x1 ≤ 2147483647) (x2 : Int) (x2l : -2147483648 ≤ x2) (x2h : x2 ≤ 2147483647) : icI gG rm_P L ys 0 (d + 3) 94 [(2, ((582 : Nat) : Int)), (0, x1), (0, x2)] s0 (fun z s => uI s ∧ ur [] s0 s ∧ -2147483648 ≤ z ∧ z ≤ 2147483647) := by
  refine ic_startM (M := rm_p_X10_sign) om_X10_sign (Nat.le_of_ble_eq_true rfl) ?_
  refine ir_w [(0, (2, ((582 : Nat) : Int))), (1, (0, x1)), (2, (0, x2))] ⟨rfl, rfl, rfl, trivial⟩ ?_
  have hF0 := ur_refl [] s0
  have J32 : ∀ (q32_s0 : Int) (q32_s0l : -2147483648 ≤ q32_s0) (q32_s0h : q32_s0 ≤ 2147483647) (s_32 : im_S) (hT_32 : uI s_32) (hF_32 : ur [] s0 s_32), ir gG rm_P L ys (d + 2) rm_p_X10_sign (32, [], [(0, q32_s0)], s_32) (fun r : im_Re => ∃ z, r.1 = some (0, z) ∧ (uI r.2 ∧ ur [] s0 r.2 ∧ -2147483648 ≤ z ∧ z ≤ 2147483647)) := by
    intro q32_s0 q32_s0l q32_s0h s_32 hT_32 hF_32
    exact ir_iret rfl rfl ⟨_, rfl, hT_32, hF_32, by omega, by omega⟩
  have J30 : ∀ (s_30 : im_S) (hT_30 : uI s_30) (hF_30 : ur [] s0 s_30), ir gG rm_P L ys (d + 2) rm_p_X10_sign (30, [], [], s_30) (fun r : im_Re => ∃ z, r.1 = some (0, z) ∧ (uI r.2 ∧ ur [] s0 r.2 ∧ -2147483648 ≤ z ∧ z ≤ 2147483647)) := by
    intro s_30 hT_30 hF_30
    refine ir_k (pc' := 32) (v := (0, (-2))) rfl rfl rfl (fun _ => rfl) ?_
    refine ir_w [] trivial ?_
    exact J32 ((-2)) (by omega) (by omega) s_30 hT_30 hF_30
  refine ir_l (pc' := 1) rfl rfl rfl rfl rfl rfl ?_
  refine ir_l (pc' := 2) rfl rfl rfl rfl rfl rfl ?_
  refine ir_cVI (pc' := 5) rfl rfl rfl rfl rfl (Nat.le_of_ble_eq_true rfl) oo_X10_isCell (hG_at usk_0) (rf_isCellR L ys d s0 hT0 (x1) (by omega) (by omega) ) (fun z1 s2 hr => ?_)
  obtain ⟨hT2, hG2, z1l, z1h, p2_0⟩ := hr
  have hF2 := ur_trans hF0 hG2 (by decide)
  refine ir_z_eq (pt := 30) (pc' := 8) rfl rfl rfl (fun c3 => ?_) (fun c3 => ?_)
  · refine ir_w [] trivial ?_
    exact J30 s2 hT2 hF2
  · refine ir_l (pc' := 9) rfl rfl rfl rfl rfl rfl ?_
    refine ir_l (pc' := 10) rfl rfl rfl rfl rfl rfl ?_
    refine ir_cVI (pc' := 13) rfl rfl rfl rfl rfl (Nat.le_of_ble_eq_true rfl) oo_X10_isAtom (hG_at usk_0) (rf_isAtomR L ys (d + 1) s2 hT2 (x2) (by omega) (by omega) ) (fun z4 s5 hr => ?_)
    obtain ⟨hT5, hG5, z4l, z4h, p5_0⟩ := hr
    have hF5 := ur_trans hF2 hG5 (by decide)
    refine ir_z_eq (pt := 30) (pc' := 16) rfl rfl rfl (fun c6 => ?_) (fun c6 => ?_)
    · refine ir_w [] trivial ?_
      exact J30 s5 hT5 hF5
    · refine ir_l (pc' := 17) rfl rfl rfl rfl rfl rfl ?_
      refine ir_ugr (pc' := 20) rfl rfl rfl uf_0_53 usk_0 hT5 (fun b7 b7e b7k => ?_)
      obtain rfl := usg_35 b7k
      refine ir_k (pc' := 22) (v := (0, 10)) rfl rfl rfl (fun _ => rfl) ?_
      refine ir_l (pc' := 23) rfl rfl rfl rfl rfl rfl ?_
      refine ir_mul (pc' := 24) rfl rfl (by omega) (by omega) ?_
      refine ir_l (pc' := 25) rfl rfl rfl rfl rfl rfl ?_
      refine ir_add (pc' := 26) rfl rfl (by omega) (by omega) ?_
      refine ir_uia (pc' := 27) rfl rfl ue_35 (by decide) usk_35 hT5 (by omega) (by omega) (fun z8 z8e z8l z8h => ?_)
      clear z8e
      refine ir_goto (pc' := 32) rfl rfl ?_
      refine ir_w [] trivial ?_
      exact J32 (z8) (by omega) (by omega) s5 hT5 hF5
theorem rf_timesR (L : Nat) (ys : Nat → Int32) (d : Nat) (s0 : im_S) (hT0 : uI s0) (x1 : Int) (x1l : -2147483648 ≤ x1) (x1h : x1 ≤ 2147483647) (x2 : Int) (x2l : -2147483648 ≤ x2) (x2h : x2 ≤ 2147483647) : icI gG rm_P L ys 0 (d + 2) 101 [(2, ((582 : Nat) : Int)), (0, x1), (0, x2)] s0 (fun z s => uI s ∧ ur [] s0 s ∧ -2147483648 ≤ z ∧ z ≤ 2147483647) := by
  refine ic_startM (M := rm_p_X10_times) om_X10_times (Nat.le_of_ble_eq_true rfl) ?_
  refine ir_w [(0, (2, ((582 : Nat) : Int))), (1, (0, x1)), (2, (0, x2))] ⟨rfl, rfl, rfl, trivial⟩ ?_
  have hF0 := ur_refl [] s0
  have J39 : ∀ (q39_s0 : Int) (q39_s0l : -2147483648 ≤ q39_s0) (q39_s0h : q39_s0 ≤ 2147483647) (s_39 : im_S) (hT_39 : uI s_39) (hF_39 : ur [] s0 s_39), ir gG rm_P L ys (d + 1) rm_p_X10_times (39, [], [(0, q39_s0)], s_39) (fun r : im_Re => ∃ z, r.1 = some (0, z) ∧ (uI r.2 ∧ ur [] s0 r.2 ∧ -2147483648 ≤ z ∧ z ≤ 2147483647)) := by
    intro q39_s0 q39_s0l q39_s0h s_39 hT_39 hF_39
    exact ir_iret rfl rfl ⟨_, rfl, hT_39, hF_39, by omega, by omega⟩
  have J16 : ∀ (s_16 : im_S) (hT_16 : uI s_16) (hF_16 : ur [] s0 s_16), ir gG rm_P L ys (d + 1) rm_p_X10_times (16, [], [], s_16) (fun r : im_Re => ∃ z, r.1 = some (0, z) ∧ (uI r.2 ∧ ur [] s0 r.2 ∧ -2147483648 ≤ z ∧ z ≤ 2147483647)) := by
    intro s_16 hT_16 hF_16
    refine ir_k (pc' := 17) (v := (0, (-1))) rfl rfl rfl (fun _ => rfl) ?_
    refine ir_goto (pc' := 39) rfl rfl ?_
    refine ir_w [] trivial ?_
    exact J39 ((-1)) (by omega) (by omega) s_16 hT_16 hF_16
  refine ir_l (pc' := 1) rfl rfl rfl rfl rfl rfl ?_
  refine ir_l (pc' := 2) rfl rfl rfl rfl rfl rfl ?_
  refine ir_cVI (pc' := 5) rfl rfl rfl rfl rfl (Nat.le_of_ble_eq_true rfl) oo_X10_isRoot (hG_at usk_0) (rf_isRootR L ys d s0 hT0 (x1) (by omega) (by omega) ) (fun z1 s2 hr => ?_)
  obtain ⟨hT2, hG2, z1l, z1h, p2_0⟩ := hr
  have hF2 := ur_trans hF0 hG2 (by decide)
  refine ir_z_eq (pt := 16) (pc' := 8) rfl rfl rfl (fun c3 => ?_) (fun c3 => ?_)
  · refine ir_w [] trivial ?_
    exact J16 s2 hT2 hF2
  · refine ir_l (pc' := 9) rfl rfl rfl rfl rfl rfl ?_
    refine ir_l (pc' := 10) rfl rfl rfl rfl rfl rfl ?_
    refine ir_cVI (pc' := 13) rfl rfl rfl rfl rfl (Nat.le_of_ble_eq_true rfl) oo_X10_isAtom (hG_at usk_0) (rf_isAtomR L ys d s2 hT2 (x2) (by omega) (by omega) ) (fun z4 s5 hr => ?_)
    obtain ⟨hT5, hG5, z4l, z4h, p5_0⟩ := hr
    have hF5 := ur_trans hF2 hG5 (by decide)
    refine ir_z_ne (pt := 20) (pc' := 16) rfl rfl rfl (fun c6 => ?_) (fun c6 => ?_)
    · refine ir_l (pc' := 21) rfl rfl rfl rfl rfl rfl ?_
      refine ir_l (pc' := 22) rfl rfl rfl rfl rfl rfl ?_
      refine ir_cVI (pc' := 25) rfl rfl rfl rfl rfl (Nat.le_of_ble_eq_true rfl) oo_X10_degreeOf (hG_at usk_0) (rf_degreeOfR L ys d s5 hT5 (x2) (by omega) (by omega) ) (fun z7 s8 hr => ?_)
      obtain ⟨hT8, hG8, z7l, z7h⟩ := hr
      have hF8 := ur_trans hF5 hG8 (by decide)
      refine ir_z_ge (pt := 33) (pc' := 28) rfl rfl rfl (fun c9 => ?_) (fun c9 => ?_)
      · refine ir_l (pc' := 34) rfl rfl rfl rfl rfl rfl ?_
        refine ir_l (pc' := 35) rfl rfl rfl rfl rfl rfl ?_
        refine ir_l (pc' := 36) rfl rfl rfl rfl rfl rfl ?_
        refine ir_cVI (pc' := 39) rfl rfl rfl rfl rfl (Nat.le_of_ble_eq_true rfl) oo_X10_timesAt (hG_at usk_0) (rf_timesAtR L ys d s8 hT8 (x1) (by omega) (by omega) (x2) (by omega) (by omega) ) (fun z10 s11 hr => ?_)
        obtain ⟨hT11, hG11, z10l, z10h⟩ := hr
        have hF11 := ur_trans hF8 hG11 (by decide)
        refine ir_w [] trivial ?_
        exact J39 (z10) (by omega) (by omega) s11 hT11 hF11
      · refine ir_k (pc' := 30) (v := (0, (-2))) rfl rfl rfl (fun _ => rfl) ?_
        refine ir_goto (pc' := 39) rfl rfl ?_
        refine ir_w [] trivial ?_
        exact J39 ((-2)) (by omega) (by omega) s8 hT8 hF8
    · refine ir_w [] trivial ?_
      exact J16 s5 hT5 hF5
