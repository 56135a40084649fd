/-! four of the class, by value -/
theorem im_self (w : Int32) : Int32.ofInt w.toInt = w := by
  exact Int32.ofInt_toInt w
theorem im_mod (w : Int32) : w.toInt % 256 = ((w.toBitVec.toNat % 256 : Nat) : Int) := by
  rw [← im_and255 w, ← im_byte w.toInt, im_self]
theorem bt_u {x m : Int} (hm : m = 16777216 ∨ m = 65536 ∨ m = 256 ∨ m = 1) : x % 4294967296 / m % 256 = bt x m := by
  unfold bt
  rcases hm with h | h | h | h <;> rw [h] <;> omega
section IRU
variable {G : List im_D} {P : Nat → rm_M} {L : Nat} {ys : Nat → Int32} {d : Nat} {M : rm_M} {pc pc' : Nat} {lv : List (Nat × im_V)} {st : List im_V} {s : im_S} {Q : im_Re → Prop}
theorem ir_ushr {x : Int} {y k : Nat} {m : Int} (hf : rm_find M.1 pc = some (.iushr, 1)) (hp : pc + 1 = pc') (hy : (Int32.ofInt (y : Int)).toUInt32 &&& Int32.toUInt32 31 = UInt32.ofNat k) (hk : k < 32) (hm : ((2 ^ k : Nat) : Int) = m) (h : ∀ z : Int, z % 256 = x % 4294967296 / m % 256 → ir G P L ys d M (pc', lv, (0, z) :: st, s) Q) : ir G P L ys d M (pc, lv, (0, (y : Int)) :: (0, x) :: st, s) Q := by
  refine ir_ii (f := fun x y => (x.toUInt32 >>> (y.toUInt32 &&& Int32.toUInt32 31)).toInt32) hf rfl rfl hp rfl (h _ ?_)
  rw [im_mod, Int.natCast_emod]
  have e := im_ushr (x := x) hy hk hm
  rw [e]
  rfl
end IRU
set_option maxRecDepth 16384 in
theorem sv_four9 (L : Nat) (ys : Nat → Int32) (d : Nat) (s0 : im_S) (hT0 : tI s0) (x : Int) (xl : -2147483648 ≤ x) (xh : x ≤ 2147483647) : icI gG rm_P L ys 0 (d + 2) 211 [(2, ((0 : Nat) : Int)), (0, x)] s0 (fun z s => tI s ∧ fr [(0, 0)] s0 s ∧ fsp x (s0.1 0 0) (s.1 0 0) z) := by
  refine ic_startM (M := rm_p_X9_four) om_X9_four (Nat.le_of_ble_eq_true rfl) ?_
  refine ir_w [(0, (2, ((0 : Nat) : Int))), (1, (0, x))] ⟨rfl, rfl, trivial⟩ ?_
  obtain ⟨w0, hw0⟩ : ∃ w0, s0.1 0 0 = w0 := ⟨_, rfl⟩
  have w00 : 0 ≤ w0 ∧ w0 ≤ 400 := by
    have := hT0.1 0 0 tsk_0 0 (0, 0, 400) (by decide +kernel)
    unfold tO at this
    rw [if_neg (by decide)] at this
    rw [hw0] at this
    exact this
  have byt : ∀ (y K : Nat) (m : Int) (pc : Nat) (lv : List (Nat × im_V)) (st : List im_V) (t : im_S) (Q : im_Re → Prop), rm_find rm_p_X9_four.1 pc = some (.iushr, 1) → rm_find rm_p_X9_four.1 (pc + 1) = some (.sipush 255, 3) → rm_find rm_p_X9_four.1 (pc + 4) = some (.iand, 1) → (Int32.ofInt (y : Int)).toUInt32 &&& Int32.toUInt32 31 = UInt32.ofNat K → K < 32 → ((2 ^ K : Nat) : Int) = m → (m = 16777216 ∨ m = 65536 ∨ m = 256 ∨ m = 1) → ir gG rm_P L ys (d + 1) rm_p_X9_four (pc + 5, lv, (0, bt x m) :: st, t) Q → ir gG rm_P L ys (d + 1) rm_p_X9_four (pc, lv, (0, (y : Int)) :: (0, x) :: st, t) Q := fun y K m pc lv st t Q f1 f2 f3 hy hk hm h4 h => by
    refine ir_ushr (pc' := pc + 1) f1 rfl hy hk hm (fun z hz => ?_)
    refine ir_k (pc' := pc + 4) (v := (0, 255)) f2 rfl rfl (fun _ => rfl) ?_
    refine ir_byte (pc' := pc + 5) f3 rfl ?_
    rw [hz, bt_u h4]
    exact h
  have st1 : ∀ (y K : Nat) (m n : Int) (Q : im_Re → Prop), (Int32.ofInt (y : Int)).toUInt32 &&& Int32.toUInt32 31 = UInt32.ofNat K → K < 32 → ((2 ^ K : Nat) : Int) = m → (m = 16777216 ∨ m = 65536 ∨ m = 256 ∨ m = 1) → (0 ≤ n ∧ n ≤ 4) → y ≤ 24 → ∀ s : im_S, tI s → fr [(0, 0)] s0 s → s.1 0 0 = w0 → (bok (bt x m) → ∀ s : im_S, tI s → fr [(0, 0)] s0 s → s.1 0 0 = w0 → ir gG rm_P L ys (d + 1) rm_p_X9_four (5, [(0, (2, ((0 : Nat) : Int))), (1, (0, x)), (2, (0, n + bn (bt x m))), (3, (0, (y : Int) + (-8)))], [], s) Q) → (¬ bok (bt x m) → ∀ s : im_S, tI s → fr [(0, 0)] s0 s → s.1 0 0 = w0 → Q (some (0, -1), s)) → ir gG rm_P L ys (d + 1) rm_p_X9_four (5, [(0, (2, ((0 : Nat) : Int))), (1, (0, x)), (2, (0, n)), (3, (0, (y : Int)))], [], s) Q := fun y K m n Q hy hk hm h4 hn hy24 s sT sF s0' hg hb => by
    have bb := bt_b x m
    refine ir_l (pc' := 6) rfl rfl rfl rfl rfl rfl ?_
    refine ir_z_lt (pt := 52) (pc' := 9) rfl rfl rfl (fun c => absurd c (by omega)) (fun _ => ?_)
    refine ir_l (pc' := 10) rfl rfl rfl rfl rfl rfl ?_
    refine ir_l (pc' := 11) rfl rfl rfl rfl rfl rfl ?_
    refine byt y K m 11 _ _ _ _ rfl rfl rfl hy hk hm h4 ?_
    refine ir_s (pc' := 18) rfl rfl rfl rfl rfl rfl ?_
    have tail : bok (bt x m) → ∀ s : im_S, tI s → fr [(0, 0)] s0 s → s.1 0 0 = w0 → ir gG rm_P L ys (d + 1) rm_p_X9_four (33, [(0, (2, ((0 : Nat) : Int))), (1, (0, x)), (2, (0, n)), (3, (0, (y : Int))), (4, (0, bt x m))], [], s) Q := fun ok s sT sF s0' => by
      have tail2 : ir gG rm_P L ys (d + 1) rm_p_X9_four (44, [(0, (2, ((0 : Nat) : Int))), (1, (0, x)), (2, (0, n)), (3, (0, (y : Int))), (4, (0, bt x m))], [(0, bn (bt x m)), (0, n)], s) Q := by
        have nb := bn_b (bt x m)
        refine ir_add (pc' := 45) rfl rfl (by omega) (by omega) ?_
        refine ir_s (pc' := 46) rfl rfl rfl rfl rfl rfl ?_
        refine ir_inc (pc' := 49) rfl rfl rfl rfl rfl (by omega) (by omega) ?_
        refine ir_goto (pc' := 5) rfl rfl ?_
        refine ir_w [(0, (2, ((0 : Nat) : Int))), (1, (0, x)), (2, (0, n + bn (bt x m))), (3, (0, (y : Int) + (-8)))] ⟨rfl, rfl, rfl, rfl, trivial⟩ ?_
        exact hg ok s sT sF s0'
      refine ir_l (pc' := 34) rfl rfl rfl rfl rfl rfl ?_
      refine ir_l (pc' := 36) rfl rfl rfl rfl rfl rfl ?_
      refine ir_z_eq (pt := 43) (pc' := 39) rfl rfl rfl (fun c => ?_) (fun c => ?_)
      · refine ir_k (pc' := 44) (v := (0, 0)) rfl rfl rfl (fun _ => rfl) ?_
        have e : bn (bt x m) = 0 := by unfold bn; rw [if_pos c]
        rw [← e]
        exact tail2
      · refine ir_k (pc' := 40) (v := (0, 1)) rfl rfl rfl (fun _ => rfl) ?_
        refine ir_goto (pc' := 44) rfl rfl ?_
        have e : bn (bt x m) = 1 := by unfold bn; rw [if_neg c]
        rw [← e]
        exact tail2
    refine ir_w [(0, (2, ((0 : Nat) : Int))), (1, (0, x)), (2, (0, n)), (3, (0, (y : Int))), (4, (0, bt x m))] ⟨rfl, rfl, rfl, rfl, rfl, trivial⟩ ?_
    refine ir_l (pc' := 20) rfl rfl rfl rfl rfl rfl ?_
    refine ir_z_eq (pt := 33) (pc' := 23) rfl rfl rfl (fun c => tail (Or.inl c) s sT sF s0') (fun c => ?_)
    refine ir_l (pc' := 25) rfl rfl rfl rfl rfl rfl ?_
    refine ir_cSI (pc' := 28) rfl rfl rfl rfl rfl rfl (Nat.le_of_ble_eq_true rfl) (sf_isSign9 L ys d s sT (bt x m) (by omega) (by omega)) (fun z t hr => ?_)
    obtain ⟨r1, r2, r3, r4, r5⟩ := hr
    have tF := fr_trans sF r2 (by decide)
    have t0 : t.1 0 0 = w0 := (r2.1 0 0 tsk_0 0 (by decide)).trans s0'
    refine ir_z_ne (pt := 33) (pc' := 31) rfl rfl rfl (fun c => tail (by unfold bok; omega) t r1 tF t0) (fun c => ?_)
    refine ir_k (pc' := 32) (v := (0, (-1))) rfl rfl rfl (fun _ => rfl) ?_
    exact ir_iret rfl rfl (hb (by unfold bok; omega) t r1 tF t0)
  have st2 : ∀ (y K : Nat) (m w : Int) (t : im_S) (Q : im_Re → Prop), tI t → fr [(0, 0)] s0 t → (Int32.ofInt (y : Int)).toUInt32 &&& Int32.toUInt32 31 = UInt32.ofNat K → K < 32 → ((2 ^ K : Nat) : Int) = m → (m = 16777216 ∨ m = 65536 ∨ m = 256 ∨ m = 1) → y ≤ 24 → t.1 0 0 = w → 0 ≤ w → w + bn (bt x m) ≤ 400 → (∀ t' : im_S, tI t' → fr [(0, 0)] s0 t' → t'.1 0 0 = w + bn (bt x m) → ir gG rm_P L ys (d + 1) rm_p_X9_four (69, [(0, (2, ((0 : Nat) : Int))), (1, (0, x)), (3, (0, (y : Int) + (-8)))], [], t') Q) → ir gG rm_P L ys (d + 1) rm_p_X9_four (69, [(0, (2, ((0 : Nat) : Int))), (1, (0, x)), (3, (0, (y : Int)))], [], t) Q := fun y K m w t Q tT tF hy hk hm h4 hy24 tw w0' w4 hg => by
    have bb := bt_b x m
    have tail : ∀ t' : im_S, tI t' → fr [(0, 0)] s0 t' → t'.1 0 0 = w + bn (bt x m) → ir gG rm_P L ys (d + 1) rm_p_X9_four (122, [(0, (2, ((0 : Nat) : Int))), (1, (0, x)), (3, (0, (y : Int))), (4, (0, bt x m))], [], t') Q := fun t' a1 a2 a3 => by
      refine ir_inc (pc' := 125) rfl rfl rfl rfl rfl (by omega) (by omega) ?_
      refine ir_goto (pc' := 69) rfl rfl ?_
      refine ir_w [(0, (2, ((0 : Nat) : Int))), (1, (0, x)), (3, (0, (y : Int) + (-8)))] ⟨rfl, rfl, rfl, trivial⟩ ?_
      exact hg t' a1 a2 a3
    refine ir_l (pc' := 70) rfl rfl rfl rfl rfl rfl ?_
    refine ir_z_lt (pt := 128) (pc' := 73) rfl rfl rfl (fun c => absurd c (by omega)) (fun _ => ?_)
    refine ir_l (pc' := 74) rfl rfl rfl rfl rfl rfl ?_
    refine ir_l (pc' := 75) rfl rfl rfl rfl rfl rfl ?_
    refine byt y K m 75 _ _ _ _ rfl rfl rfl hy hk hm h4 ?_
    refine ir_s (pc' := 82) rfl rfl rfl rfl rfl rfl ?_
    refine ir_w [(0, (2, ((0 : Nat) : Int))), (1, (0, x)), (3, (0, (y : Int))), (4, (0, bt x m))] ⟨rfl, rfl, rfl, rfl, trivial⟩ ?_
    refine ir_l (pc' := 84) rfl rfl rfl rfl rfl rfl ?_
    refine ir_z_eq (pt := 122) (pc' := 87) rfl rfl rfl (fun c => tail t tT tF (by unfold bn; rw [if_pos c]; omega)) (fun c => ?_)
    have e1 : bn (bt x m) = 1 := by unfold bn; rw [if_neg c]
    refine ir_l (pc' := 88) rfl rfl rfl rfl rfl rfl ?_
    refine ir_getI (pc' := 91) rfl rfl rfl (gG_at tsk_0) rfl (by decide) (by decide) tw (by omega) (by omega) ?_
    refine ir_k (pc' := 94) (v := (0, 400)) rfl rfl rfl (fun _ => rfl) ?_
    refine ir_c_ge (pt := 122) (pc' := 97) rfl rfl rfl (fun c5 => absurd c5 (by omega)) (fun c5 => ?_)
    refine ir_l (pc' := 98) rfl rfl rfl rfl rfl rfl ?_
    refine ir_tgr (pc' := 101) rfl rfl rfl tf_0_5 tsk_0 tT (fun b6 b6e b6k => ?_)
    obtain rfl := tsg_2 b6k
    refine ir_tgr (pc' := 104) rfl rfl rfl tf_2_0 tsk_2 tT (fun b7 b7e b7k => ?_)
    obtain rfl := tsg_3 b7k
    refine ir_l (pc' := 105) rfl rfl rfl rfl rfl rfl ?_
    refine ir_getI (pc' := 108) rfl rfl rfl (gG_at tsk_0) rfl (by decide) (by decide) tw (by omega) (by omega) ?_
    refine ir_l (pc' := 110) rfl rfl rfl rfl rfl rfl ?_
    refine ir_i2cE (pc' := 111) rfl rfl (by omega) (by omega) ?_
    refine ir_tis (pc' := 112) rfl rfl rfl rfl te_3 tsk_3 tT (by omega) (by omega) (im_fit_of (lo := 0) (hi := 65535) (by decide) (by omega) (by omega)) (by omega) (by omega) (fun s8 hT8 r8 o8 => ?_)
    have hF8 := fr_row tF r8 o8
    have e9 : s8.1 0 0 = w := by rw [r8]; exact tw
    refine ir_l (pc' := 113) rfl rfl rfl rfl rfl rfl ?_
    refine ir_x (pc' := 114) rfl rfl rfl (fun _ => rfl) ?_
    refine ir_getI (pc' := 117) rfl rfl rfl (gG_at tsk_0) rfl (by decide) (by decide) e9 (by omega) (by omega) ?_
    refine ir_k (pc' := 118) (v := (0, 1)) rfl rfl rfl (fun _ => rfl) ?_
    refine ir_add (pc' := 119) rfl rfl (by omega) (by omega) ?_
    refine ir_tpi (pc' := 122) rfl rfl rfl tf_0_0 rfl tsk_0 hT8 rfl (by omega) (by omega) (fun s12 hT12 e12 g12 r12 => ?_)
    exact tail s12 hT12 (fr_put (k := 0) hF8 (by decide) tsk_0 g12 r12) (by rw [e12, e1])
  have nb1 := bn_b (bt x 16777216)
  have nb2 := bn_b (bt x 65536)
  have nb3 := bn_b (bt x 256)
  have nb4 := bn_b (bt x 1)
  refine ir_k (pc' := 1) (v := (0, 0)) rfl rfl rfl (fun _ => rfl) ?_
  refine ir_s (pc' := 2) rfl rfl rfl rfl rfl rfl ?_
  refine ir_k (pc' := 4) (v := (0, 24)) rfl rfl rfl (fun _ => rfl) ?_
  refine ir_s (pc' := 5) rfl rfl rfl rfl rfl rfl ?_
  have bad : ¬ ball x → ∀ s : im_S, tI s → fr [(0, 0)] s0 s → s.1 0 0 = w0 → (fun r : im_Re => ∃ z, r.1 = some (0, z) ∧ (tI r.2 ∧ fr [(0, 0)] s0 r.2 ∧ fsp x (s0.1 0 0) (r.2.1 0 0) z)) (some (0, -1), s) := fun h s sT sF s0' => ⟨_, rfl, sT, sF, Or.inl ⟨h, by dsimp only; omega, rfl⟩⟩
  refine ir_w [(0, (2, ((0 : Nat) : Int))), (1, (0, x)), (2, (0, 0)), (3, (0, ((24 : Nat) : Int)))] ⟨rfl, rfl, rfl, rfl, trivial⟩ ?_
  refine st1 24 24 16777216 0 _ (by decide) (by decide) (by decide) (by decide) (by decide) (by decide) s0 hT0 (fr_refl _ _) hw0 (fun b1 s1 T1 F1 E1 => ?_) (fun b1 => bad (fun w => b1 w.1))
  refine ir_w [(0, (2, ((0 : Nat) : Int))), (1, (0, x)), (2, (0, 0 + bn (bt x 16777216))), (3, (0, ((16 : Nat) : Int)))] ⟨rfl, rfl, rfl, rfl, trivial⟩ ?_
  refine st1 16 16 65536 _ _ (by decide) (by decide) (by decide) (by decide) (by omega) (by decide) s1 T1 F1 E1 (fun b2 s2 T2 F2 E2 => ?_) (fun b2 => bad (fun w => b2 w.2.1))
  refine ir_w [(0, (2, ((0 : Nat) : Int))), (1, (0, x)), (2, (0, 0 + bn (bt x 16777216) + bn (bt x 65536))), (3, (0, ((8 : Nat) : Int)))] ⟨rfl, rfl, rfl, rfl, trivial⟩ ?_
  refine st1 8 8 256 _ _ (by decide) (by decide) (by decide) (by decide) (by omega) (by decide) s2 T2 F2 E2 (fun b3 s3 T3 F3 E3 => ?_) (fun b3 => bad (fun w => b3 w.2.2.1))
  refine ir_w [(0, (2, ((0 : Nat) : Int))), (1, (0, x)), (2, (0, 0 + bn (bt x 16777216) + bn (bt x 65536) + bn (bt x 256))), (3, (0, ((0 : Nat) : Int)))] ⟨rfl, rfl, rfl, rfl, trivial⟩ ?_
  refine st1 0 0 1 _ _ (by decide) (by decide) (by decide) (by decide) (by omega) (by decide) s3 T3 F3 E3 (fun b4 s4 T4 F4 E4 => ?_) (fun b4 => bad (fun w => b4 w.2.2.2))
  have all : ball x := ⟨b1, b2, b3, b4⟩
  have en : 0 + bn (bt x 16777216) + bn (bt x 65536) + bn (bt x 256) + bn (bt x 1) = bcn x := by unfold bcn; omega
  have cb : 0 ≤ bcn x ∧ bcn x ≤ 4 := by unfold bcn; omega
  rw [en]
  refine ir_l (pc' := 6) rfl rfl rfl rfl rfl rfl ?_
  refine ir_z_lt (pt := 52) (pc' := 9) rfl rfl rfl (fun _ => ?_) (fun c => absurd c (by decide))
  refine ir_l (pc' := 53) rfl rfl rfl rfl rfl rfl ?_
  refine ir_getI (pc' := 56) rfl rfl rfl (gG_at tsk_0) rfl (by decide) (by decide) E4 (by omega) (by omega) ?_
  refine ir_l (pc' := 57) rfl rfl rfl rfl rfl rfl ?_
  refine ir_add (pc' := 58) rfl rfl (by omega) (by omega) ?_
  refine ir_k (pc' := 61) (v := (0, 400)) rfl rfl rfl (fun _ => rfl) ?_
  refine ir_c_le (pt := 66) (pc' := 64) rfl rfl rfl (fun le => ?_) (fun gt => ?_)
  · refine ir_k (pc' := 68) (v := (0, 24)) rfl rfl rfl (fun _ => rfl) ?_
    refine ir_s (pc' := 69) rfl rfl rfl rfl rfl rfl ?_
    refine ir_w [(0, (2, ((0 : Nat) : Int))), (1, (0, x)), (3, (0, ((24 : Nat) : Int)))] ⟨rfl, rfl, rfl, trivial⟩ ?_
    refine st2 24 24 16777216 w0 s4 _ T4 F4 (by decide) (by decide) (by decide) (by decide) (by decide) E4 (by omega) (by unfold bcn at le; omega) (fun s5 T5 F5 E5 => ?_)
    refine ir_w [(0, (2, ((0 : Nat) : Int))), (1, (0, x)), (3, (0, ((16 : Nat) : Int)))] ⟨rfl, rfl, rfl, trivial⟩ ?_
    refine st2 16 16 65536 _ s5 _ T5 F5 (by decide) (by decide) (by decide) (by decide) (by decide) E5 (by omega) (by unfold bcn at le; omega) (fun s6 T6 F6 E6 => ?_)
    refine ir_w [(0, (2, ((0 : Nat) : Int))), (1, (0, x)), (3, (0, ((8 : Nat) : Int)))] ⟨rfl, rfl, rfl, trivial⟩ ?_
    refine st2 8 8 256 _ s6 _ T6 F6 (by decide) (by decide) (by decide) (by decide) (by decide) E6 (by omega) (by unfold bcn at le; omega) (fun s7 T7 F7 E7 => ?_)
    refine ir_w [(0, (2, ((0 : Nat) : Int))), (1, (0, x)), (3, (0, ((0 : Nat) : Int)))] ⟨rfl, rfl, rfl, trivial⟩ ?_
    refine st2 0 0 1 _ s7 _ T7 F7 (by decide) (by decide) (by decide) (by decide) (by decide) E7 (by omega) (by unfold bcn at le; omega) (fun s8 T8 F8 E8 => ?_)
    refine ir_l (pc' := 70) rfl rfl rfl rfl rfl rfl ?_
    refine ir_z_lt (pt := 128) (pc' := 73) rfl rfl rfl (fun _ => ?_) (fun c => absurd c (by decide))
    refine ir_l (pc' := 129) rfl rfl rfl rfl rfl rfl ?_
    refine ir_getI (pc' := 132) rfl rfl rfl (gG_at tsk_0) rfl (by decide) (by decide) E8 (by unfold bcn at le; omega) (by unfold bcn at le; omega) ?_
    exact ir_iret rfl rfl ⟨_, rfl, T8, F8, Or.inr (Or.inr ⟨all, by omega, by dsimp only; unfold bcn; omega, E8.symm⟩)⟩
  · refine ir_k (pc' := 65) (v := (0, (-1))) rfl rfl rfl (fun _ => rfl) ?_
    exact ir_iret rfl rfl ⟨_, rfl, T4, F4, Or.inr (Or.inl ⟨all, by omega, by dsimp only; omega, rfl⟩)⟩
