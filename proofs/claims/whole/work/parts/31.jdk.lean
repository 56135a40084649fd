/-! THE JDK'S OWN SMALL METHODS -/
theorem ir_izA {G : List im_D} {P : Nat → rm_M} {L : Nat} {ys : Nat → Int32} {d : Nat} {M : rm_M} {pc pc' : Nat} {lv : List (Nat × im_V)} {st : List im_V} {s : im_S} {Q : im_Re → Prop} {i : Instr} {f : Int32 → Int32 → Int32} {x y : Int} (hf : rm_find M.1 pc = some (i, 1)) (hc : rm_ck i = none) (ho : im_op G M.2.2.1 M.2.1 L ys i 1 = some (im_iiz f)) (hp : pc + 1 = pc') (hy : y ≠ 0) (h : ∀ z : Int, -2147483648 ≤ z → z ≤ 2147483647 → ir G P L ys d M (pc', lv, (0, z) :: st, s) Q) : ir G P L ys d M (pc, lv, (0, y) :: (0, x) :: st, s) Q :=
  ir_iz hf hc ho hp hy rfl (h _ (by have := (f (Int32.ofInt x) (Int32.ofInt y)).le_toInt; omega) (by have := (f (Int32.ofInt x) (Int32.ofInt y)).toInt_lt; omega))
theorem sf_min (L : Nat) (ys : Nat → Int32) (d : Nat) (s0 : im_S) (x0 : Int) (x0l : -2147483648 ≤ x0) (x0h : x0 ≤ 2147483647) (x1 : Int) (x1l : -2147483648 ≤ x1) (x1h : x1 ≤ 2147483647) : icI gG rm_P L ys 0 (d + 1) 244 [(0, x0), (0, x1)] s0 (fun z s => s0 = s ∧ z ≤ x0 ∧ z ≤ x1 ∧ (z = x0 ∨ z = x1)) := by
  refine ic_startM (M := rm_p_J9_min_7cf53) om_J9_min_7cf53 (Nat.le_of_ble_eq_true rfl) ?_
  refine ir_w [(0, (0, x0)), (1, (0, x1))] ⟨rfl, rfl, trivial⟩ ?_
  refine ir_l (pc' := 1) rfl rfl rfl rfl rfl rfl ?_
  refine ir_l (pc' := 2) rfl rfl rfl rfl rfl rfl ?_
  refine ir_c_gt (pt := 9) (pc' := 5) rfl rfl rfl (fun c1 => ?_) (fun c1 => ?_)
  · refine ir_l (pc' := 10) rfl rfl rfl rfl rfl rfl ?_
    exact ir_iret rfl rfl ⟨_, rfl, rfl, (by first | omega | (dsimp only; omega)), (by first | omega | (dsimp only; omega)), (by first | omega | (dsimp only; omega))⟩
  · refine ir_l (pc' := 6) rfl rfl rfl rfl rfl rfl ?_
    refine ir_goto (pc' := 10) rfl rfl ?_
    exact ir_iret rfl rfl ⟨_, rfl, rfl, (by first | omega | (dsimp only; omega)), (by first | omega | (dsimp only; omega)), (by first | omega | (dsimp only; omega))⟩
theorem sf_max (L : Nat) (ys : Nat → Int32) (d : Nat) (s0 : im_S) (x0 : Int) (x0l : -2147483648 ≤ x0) (x0h : x0 ≤ 2147483647) (x1 : Int) (x1l : -2147483648 ≤ x1) (x1h : x1 ≤ 2147483647) : icI gG rm_P L ys 0 (d + 1) 242 [(0, x0), (0, x1)] s0 (fun z s => s0 = s ∧ x0 ≤ z ∧ x1 ≤ z ∧ (z = x0 ∨ z = x1)) := by
  refine ic_startM (M := rm_p_J9_max_7cf53) om_J9_max_7cf53 (Nat.le_of_ble_eq_true rfl) ?_
  refine ir_w [(0, (0, x0)), (1, (0, x1))] ⟨rfl, rfl, trivial⟩ ?_
  refine ir_l (pc' := 1) rfl rfl rfl rfl rfl rfl ?_
  refine ir_l (pc' := 2) rfl rfl rfl rfl rfl rfl ?_
  refine ir_c_lt (pt := 9) (pc' := 5) rfl rfl rfl (fun c1 => ?_) (fun c1 => ?_)
  · refine ir_l (pc' := 10) rfl rfl rfl rfl rfl rfl ?_
    exact ir_iret rfl rfl ⟨_, rfl, rfl, (by first | omega | (dsimp only; omega)), (by first | omega | (dsimp only; omega)), (by first | omega | (dsimp only; omega))⟩
  · refine ir_l (pc' := 6) rfl rfl rfl rfl rfl rfl ?_
    refine ir_goto (pc' := 10) rfl rfl ?_
    exact ir_iret rfl rfl ⟨_, rfl, rfl, (by first | omega | (dsimp only; omega)), (by first | omega | (dsimp only; omega)), (by first | omega | (dsimp only; omega))⟩
theorem sf_maxJ (L : Nat) (ys : Nat → Int32) (d : Nat) (s0 : im_S) (x0 : Int) (x0l : -9223372036854775808 ≤ x0) (x0h : x0 ≤ 9223372036854775807) (x1 : Int) (x1l : -9223372036854775808 ≤ x1) (x1h : x1 ≤ 9223372036854775807) : icI gG rm_P L ys 1 (d + 1) 243 [(1, x0), (1, x1)] s0 (fun z s => s0 = s ∧ x0 ≤ z ∧ x1 ≤ z ∧ (z = x0 ∨ z = x1)) := by
  refine ic_startM (M := rm_p_J9_max_f86c9) om_J9_max_f86c9 (Nat.le_of_ble_eq_true rfl) ?_
  refine ir_w [(0, (1, x0)), (2, (1, x1))] ⟨rfl, rfl, trivial⟩ ?_
  refine ir_l (pc' := 1) rfl rfl rfl rfl rfl rfl ?_
  refine ir_l (pc' := 2) rfl rfl rfl rfl rfl rfl ?_
  refine ir_lcmp (pc' := 3) rfl rfl (by omega) (by omega) (by omega) (by omega) (fun z1 z1c => ?_)
  refine ir_z_lt (pt := 10) (pc' := 6) rfl rfl rfl (fun c2 => ?_) (fun c2 => ?_)
  · refine ir_l (pc' := 11) rfl rfl rfl rfl rfl rfl ?_
    exact ir_lret rfl rfl ⟨_, rfl, rfl, (by first | omega | (dsimp only; omega)), (by first | omega | (dsimp only; omega)), (by first | omega | (dsimp only; omega))⟩
  · refine ir_l (pc' := 7) rfl rfl rfl rfl rfl rfl ?_
    refine ir_goto (pc' := 11) rfl rfl ?_
    exact ir_lret rfl rfl ⟨_, rfl, rfl, (by first | omega | (dsimp only; omega)), (by first | omega | (dsimp only; omega)), (by first | omega | (dsimp only; omega))⟩
theorem sf_absI (L : Nat) (ys : Nat → Int32) (d : Nat) (s0 : im_S) (x0 : Int) (x0l : -2147483648 ≤ x0) (x0h : x0 ≤ 2147483647) : icI gG rm_P L ys 0 (d + 1) 237 [(0, x0)] s0 (fun z s => s0 = s ∧ -2147483648 ≤ z ∧ z ≤ 2147483647 ∧ (0 ≤ x0 → z = x0)) := by
  refine ic_startM (M := rm_p_J9_abs_0f7a4) om_J9_abs_0f7a4 (Nat.le_of_ble_eq_true rfl) ?_
  refine ir_w [(0, (0, x0))] ⟨rfl, trivial⟩ ?_
  refine ir_l (pc' := 1) rfl rfl rfl rfl rfl rfl ?_
  refine ir_z_ge (pt := 9) (pc' := 4) rfl rfl rfl (fun c1 => ?_) (fun c1 => ?_)
  · refine ir_l (pc' := 10) rfl rfl rfl rfl rfl rfl ?_
    exact ir_iret rfl rfl ⟨_, rfl, rfl, (by first | omega | (dsimp only; omega)), (by first | omega | (dsimp only; omega)), (by first | omega | (dsimp only; omega))⟩
  · refine ir_l (pc' := 5) rfl rfl rfl rfl rfl rfl ?_
    refine ir_i1A (pc' := 6) rfl rfl rfl rfl (fun z2 z2e z2l z2h => ?_)
    clear z2e
    refine ir_goto (pc' := 10) rfl rfl ?_
    exact ir_iret rfl rfl ⟨_, rfl, rfl, (by first | omega | (dsimp only; omega)), (by first | omega | (dsimp only; omega)), (by first | omega | (dsimp only; omega))⟩
theorem sf_absJ (L : Nat) (ys : Nat → Int32) (d : Nat) (s0 : im_S) (x0 : Int) (x0l : -9223372036854775808 ≤ x0) (x0h : x0 ≤ 9223372036854775807) : icI gG rm_P L ys 1 (d + 1) 236 [(1, x0)] s0 (fun z s => s0 = s ∧ -9223372036854775808 ≤ z ∧ z ≤ 9223372036854775807 ∧ (0 ≤ x0 → z = x0)) := by
  refine ic_startM (M := rm_p_J9_abs_067f4) om_J9_abs_067f4 (Nat.le_of_ble_eq_true rfl) ?_
  refine ir_w [(0, (1, x0))] ⟨rfl, trivial⟩ ?_
  refine ir_l (pc' := 1) rfl rfl rfl rfl rfl rfl ?_
  refine ir_k (pc' := 2) (v := (1, 0)) rfl rfl rfl (fun _ => rfl) ?_
  refine ir_lcmp (pc' := 3) rfl rfl (by omega) (by omega) (by omega) (by omega) (fun z1 z1c => ?_)
  refine ir_z_ge (pt := 11) (pc' := 6) rfl rfl rfl (fun c2 => ?_) (fun c2 => ?_)
  · refine ir_l (pc' := 12) rfl rfl rfl rfl rfl rfl ?_
    exact ir_lret rfl rfl ⟨_, rfl, rfl, (by first | omega | (dsimp only; omega)), (by first | omega | (dsimp only; omega)), (by first | omega | (dsimp only; omega))⟩
  · refine ir_l (pc' := 7) rfl rfl rfl rfl rfl rfl ?_
    refine ir_lnegA (pc' := 8) rfl rfl (fun z3 z3l z3h => ?_)
    refine ir_goto (pc' := 12) rfl rfl ?_
    exact ir_lret rfl rfl ⟨_, rfl, rfl, (by first | omega | (dsimp only; omega)), (by first | omega | (dsimp only; omega)), (by first | omega | (dsimp only; omega))⟩
theorem sf_fdI (L : Nat) (ys : Nat → Int32) (d : Nat) (s0 : im_S) (x0 : Int) (x0l : -2147483648 ≤ x0) (x0h : x0 ≤ 2147483647) (x1 : Int) (x1l : 1 ≤ x1) (x1h : x1 ≤ 2147483647) : icI gG rm_P L ys 0 (d + 1) 238 [(0, x0), (0, x1)] s0 (fun z s => s0 = s ∧ -2147483648 ≤ z ∧ z ≤ 2147483647) := by
  refine ic_startM (M := rm_p_J9_floorDiv_7cf53) om_J9_floorDiv_7cf53 (Nat.le_of_ble_eq_true rfl) ?_
  refine ir_w [(0, (0, x0)), (1, (0, x1))] ⟨rfl, rfl, trivial⟩ ?_
  refine ir_l (pc' := 1) rfl rfl rfl rfl rfl rfl ?_
  refine ir_l (pc' := 2) rfl rfl rfl rfl rfl rfl ?_
  refine ir_izA (pc' := 3) rfl rfl rfl rfl (by omega) (fun z1 z1l z1h => ?_)
  refine ir_s (pc' := 4) rfl rfl rfl rfl rfl rfl ?_
  refine ir_l (pc' := 5) rfl rfl rfl rfl rfl rfl ?_
  refine ir_l (pc' := 6) rfl rfl rfl rfl rfl rfl ?_
  refine ir_iiA (pc' := 7) rfl rfl rfl rfl (fun z2 z2l z2h => ?_)
  refine ir_z_ge (pt := 21) (pc' := 10) rfl rfl rfl (fun c3 => ?_) (fun c3 => ?_)
  · refine ir_l (pc' := 22) rfl rfl rfl rfl rfl rfl ?_
    exact ir_iret rfl rfl ⟨_, rfl, rfl, (by first | omega | (dsimp only; omega)), (by first | omega | (dsimp only; omega))⟩
  · refine ir_l (pc' := 11) rfl rfl rfl rfl rfl rfl ?_
    refine ir_l (pc' := 12) rfl rfl rfl rfl rfl rfl ?_
    refine ir_iiA (pc' := 13) rfl rfl rfl rfl (fun z4 z4l z4h => ?_)
    refine ir_l (pc' := 14) rfl rfl rfl rfl rfl rfl ?_
    refine ir_c_eq (pt := 21) (pc' := 17) rfl rfl rfl (fun c5 => ?_) (fun c5 => ?_)
    · refine ir_l (pc' := 22) rfl rfl rfl rfl rfl rfl ?_
      exact ir_iret rfl rfl ⟨_, rfl, rfl, (by first | omega | (dsimp only; omega)), (by first | omega | (dsimp only; omega))⟩
    · refine ir_l (pc' := 18) rfl rfl rfl rfl rfl rfl ?_
      refine ir_k (pc' := 19) (v := (0, 1)) rfl rfl rfl (fun _ => rfl) ?_
      refine ir_iiA (pc' := 20) rfl rfl rfl rfl (fun z6 z6l z6h => ?_)
      exact ir_iret rfl rfl ⟨_, rfl, rfl, (by first | omega | (dsimp only; omega)), (by first | omega | (dsimp only; omega))⟩
theorem sf_fmI (L : Nat) (ys : Nat → Int32) (d : Nat) (s0 : im_S) (x0 : Int) (x0l : -2147483648 ≤ x0) (x0h : x0 ≤ 2147483647) (x1 : Int) (x1l : 1 ≤ x1) (x1h : x1 ≤ 2147483647) : icI gG rm_P L ys 0 (d + 1) 240 [(0, x0), (0, x1)] s0 (fun z s => s0 = s ∧ -2147483648 ≤ z ∧ z ≤ 2147483647) := by
  refine ic_startM (M := rm_p_J9_floorMod_7cf53) om_J9_floorMod_7cf53 (Nat.le_of_ble_eq_true rfl) ?_
  refine ir_w [(0, (0, x0)), (1, (0, x1))] ⟨rfl, rfl, trivial⟩ ?_
  refine ir_l (pc' := 1) rfl rfl rfl rfl rfl rfl ?_
  refine ir_l (pc' := 2) rfl rfl rfl rfl rfl rfl ?_
  refine ir_remA (pc' := 3) rfl rfl (by omega) (by omega) (by omega) (by omega) (fun z1 z1l z1h => ?_)
  refine ir_s (pc' := 4) rfl rfl rfl rfl rfl rfl ?_
  refine ir_l (pc' := 5) rfl rfl rfl rfl rfl rfl ?_
  refine ir_l (pc' := 6) rfl rfl rfl rfl rfl rfl ?_
  refine ir_iiA (pc' := 7) rfl rfl rfl rfl (fun z2 z2l z2h => ?_)
  refine ir_z_ge (pt := 18) (pc' := 10) rfl rfl rfl (fun c3 => ?_) (fun c3 => ?_)
  · refine ir_l (pc' := 19) rfl rfl rfl rfl rfl rfl ?_
    exact ir_iret rfl rfl ⟨_, rfl, rfl, (by first | omega | (dsimp only; omega)), (by first | omega | (dsimp only; omega))⟩
  · refine ir_l (pc' := 11) rfl rfl rfl rfl rfl rfl ?_
    refine ir_z_eq (pt := 18) (pc' := 14) rfl rfl rfl (fun c4 => ?_) (fun c4 => ?_)
    · refine ir_l (pc' := 19) rfl rfl rfl rfl rfl rfl ?_
      exact ir_iret rfl rfl ⟨_, rfl, rfl, (by first | omega | (dsimp only; omega)), (by first | omega | (dsimp only; omega))⟩
    · refine ir_l (pc' := 15) rfl rfl rfl rfl rfl rfl ?_
      refine ir_l (pc' := 16) rfl rfl rfl rfl rfl rfl ?_
      refine ir_iiA (pc' := 17) rfl rfl rfl rfl (fun z5 z5l z5h => ?_)
      exact ir_iret rfl rfl ⟨_, rfl, rfl, (by first | omega | (dsimp only; omega)), (by first | omega | (dsimp only; omega))⟩
theorem sf_fdJ (L : Nat) (ys : Nat → Int32) (d : Nat) (s0 : im_S) (x0 : Int) (x0l : -9223372036854775808 ≤ x0) (x0h : x0 ≤ 9223372036854775807) (x1 : Int) (x1l : 1 ≤ x1) (x1h : x1 ≤ 9223372036854775807) : icI gG rm_P L ys 1 (d + 1) 239 [(1, x0), (1, x1)] s0 (fun z s => s0 = s ∧ -9223372036854775808 ≤ z ∧ z ≤ 9223372036854775807) := by
  refine ic_startM (M := rm_p_J9_floorDiv_f86c9) om_J9_floorDiv_f86c9 (Nat.le_of_ble_eq_true rfl) ?_
  refine ir_w [(0, (1, x0)), (2, (1, x1))] ⟨rfl, rfl, trivial⟩ ?_
  refine ir_l (pc' := 1) rfl rfl rfl rfl rfl rfl ?_
  refine ir_l (pc' := 2) rfl rfl rfl rfl rfl rfl ?_
  refine ir_jzA (pc' := 3) rfl rfl rfl rfl (by omega) (fun z1 z1l z1h => ?_)
  refine ir_s2 (pc' := 5) rfl rfl rfl rfl rfl rfl ?_
  refine ir_l (pc' := 6) rfl rfl rfl rfl rfl rfl ?_
  refine ir_l (pc' := 7) rfl rfl rfl rfl rfl rfl ?_
  refine ir_jjA (pc' := 8) rfl rfl rfl rfl (fun z2 z2l z2h => ?_)
  refine ir_k (pc' := 9) (v := (1, 0)) rfl rfl rfl (fun _ => rfl) ?_
  refine ir_lcmp (pc' := 10) rfl rfl (by omega) (by omega) (by omega) (by omega) (fun z3 z3c => ?_)
  refine ir_z_ge (pt := 27) (pc' := 13) rfl rfl rfl (fun c4 => ?_) (fun c4 => ?_)
  · refine ir_l (pc' := 29) rfl rfl rfl rfl rfl rfl ?_
    exact ir_lret rfl rfl ⟨_, rfl, rfl, (by first | omega | (dsimp only; omega)), (by first | omega | (dsimp only; omega))⟩
  · refine ir_l (pc' := 15) rfl rfl rfl rfl rfl rfl ?_
    refine ir_l (pc' := 16) rfl rfl rfl rfl rfl rfl ?_
    refine ir_jjA (pc' := 17) rfl rfl rfl rfl (fun z5 z5l z5h => ?_)
    refine ir_l (pc' := 18) rfl rfl rfl rfl rfl rfl ?_
    refine ir_lcmp (pc' := 19) rfl rfl (by omega) (by omega) (by omega) (by omega) (fun z6 z6c => ?_)
    refine ir_z_eq (pt := 27) (pc' := 22) rfl rfl rfl (fun c7 => ?_) (fun c7 => ?_)
    · refine ir_l (pc' := 29) rfl rfl rfl rfl rfl rfl ?_
      exact ir_lret rfl rfl ⟨_, rfl, rfl, (by first | omega | (dsimp only; omega)), (by first | omega | (dsimp only; omega))⟩
    · refine ir_l (pc' := 24) rfl rfl rfl rfl rfl rfl ?_
      refine ir_k (pc' := 25) (v := (1, 1)) rfl rfl rfl (fun _ => rfl) ?_
      refine ir_jjA (pc' := 26) rfl rfl rfl rfl (fun z8 z8l z8h => ?_)
      exact ir_lret rfl rfl ⟨_, rfl, rfl, (by first | omega | (dsimp only; omega)), (by first | omega | (dsimp only; omega))⟩
theorem sf_fmJ (L : Nat) (ys : Nat → Int32) (d : Nat) (s0 : im_S) (x0 : Int) (x0l : -9223372036854775808 ≤ x0) (x0h : x0 ≤ 9223372036854775807) (x1 : Int) (x1l : 1 ≤ x1) (x1h : x1 ≤ 9223372036854775807) : icI gG rm_P L ys 1 (d + 1) 241 [(1, x0), (1, x1)] s0 (fun z s => s0 = s ∧ -9223372036854775808 ≤ z ∧ z ≤ 9223372036854775807) := by
  refine ic_startM (M := rm_p_J9_floorMod_f86c9) om_J9_floorMod_f86c9 (Nat.le_of_ble_eq_true rfl) ?_
  refine ir_w [(0, (1, x0)), (2, (1, x1))] ⟨rfl, rfl, trivial⟩ ?_
  refine ir_l (pc' := 1) rfl rfl rfl rfl rfl rfl ?_
  refine ir_l (pc' := 2) rfl rfl rfl rfl rfl rfl ?_
  refine ir_jzA (pc' := 3) rfl rfl rfl rfl (by omega) (fun z1 z1l z1h => ?_)
  refine ir_s2 (pc' := 5) rfl rfl rfl rfl rfl rfl ?_
  refine ir_l (pc' := 6) rfl rfl rfl rfl rfl rfl ?_
  refine ir_l (pc' := 7) rfl rfl rfl rfl rfl rfl ?_
  refine ir_jjA (pc' := 8) rfl rfl rfl rfl (fun z2 z2l z2h => ?_)
  refine ir_k (pc' := 9) (v := (1, 0)) rfl rfl rfl (fun _ => rfl) ?_
  refine ir_lcmp (pc' := 10) rfl rfl (by omega) (by omega) (by omega) (by omega) (fun z3 z3c => ?_)
  refine ir_z_ge (pt := 25) (pc' := 13) rfl rfl rfl (fun c4 => ?_) (fun c4 => ?_)
  · refine ir_l (pc' := 27) rfl rfl rfl rfl rfl rfl ?_
    exact ir_lret rfl rfl ⟨_, rfl, rfl, (by first | omega | (dsimp only; omega)), (by first | omega | (dsimp only; omega))⟩
  · refine ir_l (pc' := 15) rfl rfl rfl rfl rfl rfl ?_
    refine ir_k (pc' := 16) (v := (1, 0)) rfl rfl rfl (fun _ => rfl) ?_
    refine ir_lcmp (pc' := 17) rfl rfl (by omega) (by omega) (by omega) (by omega) (fun z5 z5c => ?_)
    refine ir_z_eq (pt := 25) (pc' := 20) rfl rfl rfl (fun c6 => ?_) (fun c6 => ?_)
    · refine ir_l (pc' := 27) rfl rfl rfl rfl rfl rfl ?_
      exact ir_lret rfl rfl ⟨_, rfl, rfl, (by first | omega | (dsimp only; omega)), (by first | omega | (dsimp only; omega))⟩
    · refine ir_l (pc' := 22) rfl rfl rfl rfl rfl rfl ?_
      refine ir_l (pc' := 23) rfl rfl rfl rfl rfl rfl ?_
      refine ir_jjA (pc' := 24) rfl rfl rfl rfl (fun z7 z7l z7h => ?_)
      exact ir_lret rfl rfl ⟨_, rfl, rfl, (by first | omega | (dsimp only; omega)), (by first | omega | (dsimp only; omega))⟩
theorem sf_cmpJ (L : Nat) (ys : Nat → Int32) (d : Nat) (s0 : im_S) (x0 : Int) (x0l : -9223372036854775808 ≤ x0) (x0h : x0 ≤ 9223372036854775807) (x1 : Int) (x1l : -9223372036854775808 ≤ x1) (x1h : x1 ≤ 9223372036854775807) : icI gG rm_P L ys 0 (d + 1) 232 [(1, x0), (1, x1)] s0 (fun z s => s0 = s ∧ -1 ≤ z ∧ z ≤ 1) := by
  refine ic_startM (M := rm_p_J13_compare_74951) om_J13_compare_74951 (Nat.le_of_ble_eq_true rfl) ?_
  refine ir_w [(0, (1, x0)), (2, (1, x1))] ⟨rfl, rfl, trivial⟩ ?_
  refine ir_l (pc' := 1) rfl rfl rfl rfl rfl rfl ?_
  refine ir_l (pc' := 2) rfl rfl rfl rfl rfl rfl ?_
  refine ir_lcmp (pc' := 3) rfl rfl (by omega) (by omega) (by omega) (by omega) (fun z1 z1c => ?_)
  refine ir_z_ge (pt := 10) (pc' := 6) rfl rfl rfl (fun c2 => ?_) (fun c2 => ?_)
  · refine ir_l (pc' := 11) rfl rfl rfl rfl rfl rfl ?_
    refine ir_l (pc' := 12) rfl rfl rfl rfl rfl rfl ?_
    refine ir_lcmp (pc' := 13) rfl rfl (by omega) (by omega) (by omega) (by omega) (fun z3 z3c => ?_)
    refine ir_z_ne (pt := 20) (pc' := 16) rfl rfl rfl (fun c4 => ?_) (fun c4 => ?_)
    · refine ir_k (pc' := 21) (v := (0, 1)) rfl rfl rfl (fun _ => rfl) ?_
      exact ir_iret rfl rfl ⟨_, rfl, rfl, (by first | omega | (dsimp only; omega)), (by first | omega | (dsimp only; omega))⟩
    · refine ir_k (pc' := 17) (v := (0, 0)) rfl rfl rfl (fun _ => rfl) ?_
      refine ir_goto (pc' := 21) rfl rfl ?_
      exact ir_iret rfl rfl ⟨_, rfl, rfl, (by first | omega | (dsimp only; omega)), (by first | omega | (dsimp only; omega))⟩
  · refine ir_k (pc' := 7) (v := (0, (-1))) rfl rfl rfl (fun _ => rfl) ?_
    refine ir_goto (pc' := 21) rfl rfl ?_
    exact ir_iret rfl rfl ⟨_, rfl, rfl, (by first | omega | (dsimp only; omega)), (by first | omega | (dsimp only; omega))⟩
