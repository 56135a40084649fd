/-! four of the reference -/
def bt (x m : Int) : Int := x / m % 256
def bok (b : Int) : Prop := b = 0 ∨ (32 ≤ b ∧ b ≤ 126)
def bn (b : Int) : Int := if b = 0 then 0 else 1
def bcn (x : Int) : Int := bn (bt x 16777216) + bn (bt x 65536) + bn (bt x 256) + bn (bt x 1)
def ball (x : Int) : Prop := bok (bt x 16777216) ∧ bok (bt x 65536) ∧ bok (bt x 256) ∧ bok (bt x 1)
/-- how many signs there are behind four, and what it answers -/
def fsp (x n r z : Int) : Prop := (¬ ball x ∧ r = n ∧ z = -1) ∨ (ball x ∧ 400 < n + bcn x ∧ r = n ∧ z = -1) ∨ (ball x ∧ n + bcn x ≤ 400 ∧ r = n + bcn x ∧ z = r)
theorem fsp_one {x n r r' z z' : Int} (h : fsp x n r z) (h' : fsp x n r' z') : r = r' ∧ z = z' := by
  rcases h with ⟨a, b, e⟩ | ⟨a, c, b, e⟩ | ⟨a, c, b, e⟩ <;> rcases h' with ⟨a', b', e'⟩ | ⟨a', c', b', e'⟩ | ⟨a', c', b', e'⟩ <;> first | omega | exact absurd a a' | exact absurd a' a
theorem bn_b (b : Int) : 0 ≤ bn b ∧ bn b ≤ 1 := by
  unfold bn
  split <;> omega
theorem bt_b (x m : Int) : 0 ≤ bt x m ∧ bt x m ≤ 255 := by
  unfold bt
  omega
theorem fsp_b {x n r z : Int} (hn : 0 ≤ n ∧ n ≤ 400) (h : fsp x n r z) : 0 ≤ r ∧ r ≤ 400 := by
  have a := bn_b (bt x 16777216)
  have b := bn_b (bt x 65536)
  have c := bn_b (bt x 256)
  have d := bn_b (bt x 1)
  unfold fsp bcn at h
  omega
set_option maxRecDepth 16384 in
theorem w_four (L : Nat) (ys : Nat → Int32) (d : Nat) (s : im_S) (hv : vI s) (x : Int) (xr : iR x) (h1 : 0 ≤ wgf s 1 ∧ wgf s 1 ≤ 400) : icI gG rm_P L ys 0 (d + 2) 42 [(2, ((582 : Nat) : Int)), (0, x)] s (fun z s' => vI s' ∧ iR z ∧ fw [1] [583] s s' ∧ fsp x (wgf s 1) (wgf s' 1) z) := by
  refine ic_startM (M := rm_p_X10_four) om_X10_four (Nat.le_of_ble_eq_true rfl) ?_
  refine ir_w [(0, (2, ((582 : Nat) : Int))), (1, (0, x))] ⟨rfl, rfl, trivial⟩ ?_
  have byt : ∀ (y K : Nat) (m : Int) (pc : Nat) (lv : List (Nat × im_V)) (st : List im_V) (t : im_S) (Q : im_Re → Prop), rm_find rm_p_X10_four.1 pc = some (.ishr, 1) → rm_find rm_p_X10_four.1 (pc + 1) = some (.sipush 255, 3) → rm_find rm_p_X10_four.1 (pc + 4) = some (.iand, 1) → ((Int32.ofInt (y : Int)) &&& 31).toBitVec.smod 32 = BitVec.ofNat 32 K → decide (K < 32) = true → (2 : Int) ^ K = m → ir gG rm_P L ys (d + 1) rm_p_X10_four (pc + 5, lv, (0, bt x m) :: st, t) Q → ir gG rm_P L ys (d + 1) rm_p_X10_four (pc, lv, (0, (y : Int)) :: (0, x) :: st, t) Q := fun y K m pc lv st t Q f1 f2 f3 hy hk hm h => by
    refine ir_shr (pc' := pc + 1) f1 rfl hy hk hm xr.1 xr.2 ?_
    refine ir_k (pc' := pc + 4) (v := (0, 255)) f2 rfl rfl (fun _ => rfl) ?_
    exact ir_byte (pc' := pc + 5) f3 rfl h
  have st1 : ∀ (y K : Nat) (m n : Int) (Q : im_Re → Prop), ((Int32.ofInt (y : Int)) &&& 31).toBitVec.smod 32 = BitVec.ofNat 32 K → decide (K < 32) = true → (2 : Int) ^ K = m → (0 ≤ n ∧ n ≤ 4) → y ≤ 24 → (bok (bt x m) → ir gG rm_P L ys (d + 1) rm_p_X10_four (5, [(0, (2, ((582 : Nat) : Int))), (1, (0, x)), (2, (0, n + bn (bt x m))), (3, (0, (y : Int) + (-8)))], [], s) Q) → (¬ bok (bt x m) → Q (some (0, -1), s)) → ir gG rm_P L ys (d + 1) rm_p_X10_four (5, [(0, (2, ((582 : Nat) : Int))), (1, (0, x)), (2, (0, n)), (3, (0, (y : Int)))], [], s) Q := fun y K m n Q hy hk hm hn hy24 hg hb => by
    have bb := bt_b x m
    refine ir_l (pc' := 6) rfl rfl rfl rfl rfl rfl ?_
    refine ir_z_lt (pt := 52) (pc' := 9) rfl rfl rfl (fun c => absurd c (by omega)) (fun _ => ?_)
    refine ir_l (pc' := 10) rfl rfl rfl rfl rfl rfl ?_
    refine ir_l (pc' := 11) rfl rfl rfl rfl rfl rfl ?_
    refine byt y K m 11 _ _ _ _ rfl rfl rfl hy hk hm ?_
    refine ir_s (pc' := 18) rfl rfl rfl rfl rfl rfl ?_
    have tail : bok (bt x m) → ir gG rm_P L ys (d + 1) rm_p_X10_four (33, [(0, (2, ((582 : Nat) : Int))), (1, (0, x)), (2, (0, n)), (3, (0, (y : Int))), (4, (0, bt x m))], [], s) Q := fun ok => by
      have tail2 : ir gG rm_P L ys (d + 1) rm_p_X10_four (44, [(0, (2, ((582 : Nat) : Int))), (1, (0, x)), (2, (0, n)), (3, (0, (y : Int))), (4, (0, bt x m))], [(0, bn (bt x m)), (0, n)], s) Q := by
        have nb := bn_b (bt x m)
        refine ir_add (pc' := 45) rfl rfl (by omega) (by omega) ?_
        refine ir_s (pc' := 46) rfl rfl rfl rfl rfl rfl ?_
        refine ir_inc (pc' := 49) rfl rfl rfl rfl rfl (by omega) (by omega) ?_
        refine ir_goto (pc' := 5) rfl rfl ?_
        refine ir_w [(0, (2, ((582 : Nat) : Int))), (1, (0, x)), (2, (0, n + bn (bt x m))), (3, (0, (y : Int) + (-8)))] ⟨rfl, rfl, rfl, rfl, trivial⟩ ?_
        exact hg ok
      refine ir_l (pc' := 34) rfl rfl rfl rfl rfl rfl ?_
      refine ir_l (pc' := 36) rfl rfl rfl rfl rfl rfl ?_
      refine ir_z_ne (pt := 43) (pc' := 39) rfl rfl rfl (fun c => ?_) (fun c => ?_)
      · refine ir_k (pc' := 44) (v := (0, 1)) rfl rfl rfl (fun _ => rfl) ?_
        have e : bn (bt x m) = 1 := by unfold bn; rw [if_neg c]
        rw [← e]
        exact tail2
      · refine ir_k (pc' := 40) (v := (0, 0)) rfl rfl rfl (fun _ => rfl) ?_
        refine ir_goto (pc' := 44) rfl rfl ?_
        have e : bn (bt x m) = 0 := by unfold bn; rw [if_pos c]
        rw [← e]
        exact tail2
    refine ir_w [(0, (2, ((582 : Nat) : Int))), (1, (0, x)), (2, (0, n)), (3, (0, (y : Int))), (4, (0, bt x m))] ⟨rfl, rfl, rfl, rfl, rfl, trivial⟩ ?_
    refine ir_l (pc' := 20) rfl rfl rfl rfl rfl rfl ?_
    refine ir_z_eq (pt := 33) (pc' := 23) rfl rfl rfl (fun c => tail (Or.inl c)) (fun c => ?_)
    refine ir_l (pc' := 25) rfl rfl rfl rfl rfl rfl ?_
    refine ir_cSI (pc' := 28) rfl rfl rfl rfl rfl rfl (Nat.le_of_ble_eq_true rfl) (w_isSign L ys d s hv (bt x m) ⟨by omega, by omega⟩ (fun z t => t = s ∧ (z = 0 → ¬ bok (bt x m)) ∧ (z ≠ 0 → bok (bt x m))) ?_) (fun z t hr => ?_)
    · unfold W_isSign
      intro v hv'
      unfold bok
      refine ⟨rfl, fun q => ?_, fun q => ?_⟩
      · split at hv'
        · omega
        · split at hv' <;> omega
      · split at hv'
        · omega
        · split at hv' <;> omega
    · obtain ⟨_, _, e, z1, z2⟩ := hr
      subst e
      refine ir_z_ne (pt := 33) (pc' := 31) rfl rfl rfl (fun c => tail (z2 c)) (fun c => ?_)
      refine ir_k (pc' := 32) (v := (0, (-1))) rfl rfl rfl (fun _ => rfl) ?_
      exact ir_iret rfl rfl (hb (z1 c))
  have st2 : ∀ (y K : Nat) (m n : Int) (t : im_S) (Q : im_Re → Prop), vI t → ((Int32.ofInt (y : Int)) &&& 31).toBitVec.smod 32 = BitVec.ofNat 32 K → decide (K < 32) = true → (2 : Int) ^ K = m → y ≤ 24 → 0 ≤ wgf t 1 → wgf t 1 + bn (bt x m) ≤ 400 → (∀ t' : im_S, vI t' → fw [1] [583] t t' → wgf t' 1 = wgf t 1 + bn (bt x m) → ir gG rm_P L ys (d + 1) rm_p_X10_four (69, [(0, (2, ((582 : Nat) : Int))), (1, (0, x)), (3, (0, (y : Int) + (-8)))], [], t') Q) → ir gG rm_P L ys (d + 1) rm_p_X10_four (69, [(0, (2, ((582 : Nat) : Int))), (1, (0, x)), (3, (0, (y : Int)))], [], t) Q := fun y K m n t Q tv hy hk hm hy24 t0 t4 hg => by
    have bb := bt_b x m
    have tail : ∀ t' : im_S, vI t' → fw [1] [583] t t' → wgf t' 1 = wgf t 1 + bn (bt x m) → ir gG rm_P L ys (d + 1) rm_p_X10_four (108, [(0, (2, ((582 : Nat) : Int))), (1, (0, x)), (3, (0, (y : Int))), (4, (0, bt x m))], [], t') Q := fun t' a1 a2 a3 => by
      refine ir_inc (pc' := 111) rfl rfl rfl rfl rfl (by omega) (by omega) ?_
      refine ir_goto (pc' := 69) rfl rfl ?_
      refine ir_w [(0, (2, ((582 : Nat) : Int))), (1, (0, x)), (3, (0, (y : Int) + (-8)))] ⟨rfl, rfl, rfl, trivial⟩ ?_
      exact hg t' a1 a2 a3
    refine ir_l (pc' := 70) rfl rfl rfl rfl rfl rfl ?_
    refine ir_z_lt (pt := 114) (pc' := 73) rfl rfl rfl (fun c => absurd c (by omega)) (fun _ => ?_)
    refine ir_l (pc' := 74) rfl rfl rfl rfl rfl rfl ?_
    refine ir_l (pc' := 75) rfl rfl rfl rfl rfl rfl ?_
    refine byt y K m 75 _ _ _ _ rfl rfl rfl hy hk hm ?_
    refine ir_s (pc' := 82) rfl rfl rfl rfl rfl rfl ?_
    refine ir_w [(0, (2, ((582 : Nat) : Int))), (1, (0, x)), (3, (0, (y : Int))), (4, (0, bt x m))] ⟨rfl, rfl, rfl, rfl, trivial⟩ ?_
    refine ir_l (pc' := 84) rfl rfl rfl rfl rfl rfl ?_
    refine ir_z_eq (pt := 108) (pc' := 87) rfl rfl rfl (fun c => tail t tv fw_rfl (by unfold bn; rw [if_pos c]; omega)) (fun c => ?_)
    have e1 : bn (bt x m) = 1 := by unfold bn; rw [if_neg c]
    refine ir_l (pc' := 88) rfl rfl rfl rfl rfl rfl ?_
    refine ir_vgr (pc' := 91) (c := 583) rfl rfl rfl rfl rfl tv ?_
    refine ir_l (pc' := 92) rfl rfl rfl rfl rfl rfl ?_
    refine ir_vgi (pc' := 95) rfl rfl rfl rfl rfl tv (fun r6 => ?_)
    refine ir_l (pc' := 97) rfl rfl rfl rfl rfl rfl ?_
    refine ir_vis (pc' := 98) rfl rfl vg_583 rfl (Nat.le_of_ble_eq_true rfl) tv rfl ⟨t0, by show wgf t 1 < 400; omega⟩ ⟨by omega, by omega⟩ (fun t1 t1e t1v => ?_)
    have z1 : wgf t1 1 = wgf t 1 := by rw [t1e]; rfl
    refine ir_l (pc' := 99) rfl rfl rfl rfl rfl rfl ?_
    refine ir_x (pc' := 100) rfl rfl rfl (fun _ => rfl) ?_
    refine ir_vgi (pc' := 103) rfl rfl rfl rfl rfl t1v (fun r9 => ?_)
    refine ir_k (pc' := 104) (v := (0, 1)) rfl rfl rfl (fun _ => rfl) ?_
    refine ir_add (pc' := 105) rfl rfl (by omega) (by omega) ?_
    refine ir_vpi (pc' := 108) rfl rfl rfl rfl rfl rfl rfl t1v ⟨by omega, by omega⟩ (fun t2 t2e t2v => ?_)
    refine tail t2 t2v (by rw [t2e, t1e]; exact fw_pf (fw_pa fw_rfl (by decide)) (by decide)) ?_
    rw [t2e, wf_same, z1, e1]
  have nb1 := bn_b (bt x 16777216)
  have nb2 := bn_b (bt x 65536)
  have nb3 := bn_b (bt x 256)
  have nb4 := bn_b (bt x 1)
  refine ir_k (pc' := 1) (v := (0, 0)) rfl rfl rfl (fun _ => rfl) ?_
  refine ir_s (pc' := 2) rfl rfl rfl rfl rfl rfl ?_
  refine ir_k (pc' := 4) (v := (0, 24)) rfl rfl rfl (fun _ => rfl) ?_
  refine ir_s (pc' := 5) rfl rfl rfl rfl rfl rfl ?_
  have bad : ¬ ball x → (fun r : im_Re => ∃ z, r.1 = some (0, z) ∧ (vI r.2 ∧ iR z ∧ fw [1] [583] s r.2 ∧ fsp x (wgf s 1) (wgf r.2 1) z)) (some (0, -1), s) := fun h => ⟨_, rfl, hv, ⟨by decide, by decide⟩, fw_rfl, Or.inl ⟨h, rfl, rfl⟩⟩
  refine ir_w [(0, (2, ((582 : Nat) : Int))), (1, (0, x)), (2, (0, 0)), (3, (0, ((24 : Nat) : Int)))] ⟨rfl, rfl, rfl, rfl, trivial⟩ ?_
  refine st1 24 24 16777216 0 _ (by decide) rfl (by decide) (by decide) (by decide) (fun b1 => ?_) (fun b1 => bad (fun w => b1 w.1))
  refine ir_w [(0, (2, ((582 : Nat) : Int))), (1, (0, x)), (2, (0, 0 + bn (bt x 16777216))), (3, (0, ((16 : Nat) : Int)))] ⟨rfl, rfl, rfl, rfl, trivial⟩ ?_
  refine st1 16 16 65536 _ _ (by decide) rfl (by decide) (by omega) (by decide) (fun b2 => ?_) (fun b2 => bad (fun w => b2 w.2.1))
  refine ir_w [(0, (2, ((582 : Nat) : Int))), (1, (0, x)), (2, (0, 0 + bn (bt x 16777216) + bn (bt x 65536))), (3, (0, ((8 : Nat) : Int)))] ⟨rfl, rfl, rfl, rfl, trivial⟩ ?_
  refine st1 8 8 256 _ _ (by decide) rfl (by decide) (by omega) (by decide) (fun b3 => ?_) (fun b3 => bad (fun w => b3 w.2.2.1))
  refine ir_w [(0, (2, ((582 : Nat) : Int))), (1, (0, x)), (2, (0, 0 + bn (bt x 16777216) + bn (bt x 65536) + bn (bt x 256))), (3, (0, ((0 : Nat) : Int)))] ⟨rfl, rfl, rfl, rfl, trivial⟩ ?_
  refine st1 0 0 1 _ _ (by decide) rfl (by decide) (by omega) (by decide) (fun b4 => ?_) (fun b4 => bad (fun w => b4 w.2.2.2))
  have all : ball x := ⟨b1, b2, b3, b4⟩
  have en : 0 + bn (bt x 16777216) + bn (bt x 65536) + bn (bt x 256) + bn (bt x 1) = bcn x := by unfold bcn; omega
  have cb : 0 ≤ bcn x ∧ bcn x ≤ 4 := by unfold bcn; omega
  rw [en]
  refine ir_l (pc' := 6) rfl rfl rfl rfl rfl rfl ?_
  refine ir_z_lt (pt := 52) (pc' := 9) rfl rfl rfl (fun _ => ?_) (fun c => absurd c (by decide))
  refine ir_l (pc' := 53) rfl rfl rfl rfl rfl rfl ?_
  refine ir_vgi (pc' := 56) rfl rfl rfl rfl rfl hv (fun r6 => ?_)
  refine ir_l (pc' := 57) rfl rfl rfl rfl rfl rfl ?_
  refine ir_add (pc' := 58) rfl rfl (by omega) (by omega) ?_
  refine ir_k (pc' := 61) (v := (0, 400)) rfl rfl rfl (fun _ => rfl) ?_
  refine ir_c_le (pt := 66) (pc' := 64) rfl rfl rfl (fun le => ?_) (fun gt => ?_)
  · refine ir_k (pc' := 68) (v := (0, 24)) rfl rfl rfl (fun _ => rfl) ?_
    refine ir_s (pc' := 69) rfl rfl rfl rfl rfl rfl ?_
    refine ir_w [(0, (2, ((582 : Nat) : Int))), (1, (0, x)), (3, (0, ((24 : Nat) : Int)))] ⟨rfl, rfl, rfl, trivial⟩ ?_
    refine st2 24 24 16777216 0 s _ hv (by decide) rfl (by decide) (by decide) (by omega) (by unfold bcn at le; omega) (fun s1 v1 f1 e1 => ?_)
    refine ir_w [(0, (2, ((582 : Nat) : Int))), (1, (0, x)), (3, (0, ((16 : Nat) : Int)))] ⟨rfl, rfl, rfl, trivial⟩ ?_
    refine st2 16 16 65536 0 s1 _ v1 (by decide) rfl (by decide) (by decide) (by omega) (by unfold bcn at le; omega) (fun s2 v2 f2 e2 => ?_)
    refine ir_w [(0, (2, ((582 : Nat) : Int))), (1, (0, x)), (3, (0, ((8 : Nat) : Int)))] ⟨rfl, rfl, rfl, trivial⟩ ?_
    refine st2 8 8 256 0 s2 _ v2 (by decide) rfl (by decide) (by decide) (by omega) (by unfold bcn at le; omega) (fun s3 v3 f3 e3 => ?_)
    refine ir_w [(0, (2, ((582 : Nat) : Int))), (1, (0, x)), (3, (0, ((0 : Nat) : Int)))] ⟨rfl, rfl, rfl, trivial⟩ ?_
    refine st2 0 0 1 0 s3 _ v3 (by decide) rfl (by decide) (by decide) (by omega) (by unfold bcn at le; omega) (fun s4 v4 f4 e4 => ?_)
    refine ir_l (pc' := 70) rfl rfl rfl rfl rfl rfl ?_
    refine ir_z_lt (pt := 114) (pc' := 73) rfl rfl rfl (fun _ => ?_) (fun c => absurd c (by decide))
    refine ir_l (pc' := 115) rfl rfl rfl rfl rfl rfl ?_
    refine ir_vgi (pc' := 118) rfl rfl rfl rfl rfl v4 (fun r7 => ?_)
    exact ir_iret rfl rfl ⟨_, rfl, v4, r7, fw_tr f1 (fw_tr f2 (fw_tr f3 f4)), Or.inr (Or.inr ⟨all, le, by dsimp only; unfold bcn; omega, rfl⟩)⟩
  · refine ir_k (pc' := 65) (v := (0, (-1))) rfl rfl rfl (fun _ => rfl) ?_
    exact ir_iret rfl rfl ⟨_, rfl, hv, ⟨by decide, by decide⟩, fw_rfl, Or.inr (Or.inl ⟨all, by omega, rfl, rfl⟩)⟩
