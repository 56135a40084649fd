/-! THE LAW'S BODY, with the text, by program -/
set_option maxRecDepth 16384 in
theorem law_18z (L : Nat) (ys : Nat → Int32) (hL : L ≤ 2048) : ∀ n : Nat, ∀ (i : Int) (s : im_S), 0 ≤ i → i ≤ 2052 → LI5 s → (2060 - i ≤ (n : Int)) → ir gG rm_P L ys 86 rm_p_L_law (18, [(0, (4, 0)), (1, (2, ((0 : Nat) : Int))), (2, (2, ((582 : Nat) : Int))), (3, (0, i))], [], s) (fun r : im_Re => r.1 = some (0, 1)) := by
  intro n
  induction n with
  | zero => intro i s i0 i1 _ hn; exfalso; omega
  | succ n ih =>
    intro i s i0 i1 hI5 hn
    obtain ⟨⟨hI2, hG⟩, hB0⟩ := hI5
    have hI := hI2.1
    have hRB := hB0
    obtain ⟨n1, n2, n3, n4, At, N9, n9, nb9, p9, b9, M9, T9, cs9, ds9, oc9, od9, tb9, hd9, f9, F9, lo9, hi9, hB, hR⟩ := hB0
    have nxt : ∀ s' : im_S, i + 4 ≤ L → LI5 s' → ir gG rm_P L ys 86 rm_p_L_law (536, [(0, (4, 0)), (1, (2, ((0 : Nat) : Int))), (2, (2, ((582 : Nat) : Int))), (3, (0, i))], [], s') (fun r : im_Re => r.1 = some (0, 1)) := fun s' hi hs => by
      refine ir_inc (pc' := 539) rfl rfl rfl rfl rfl (by omega) (by omega) ?_
      refine ir_goto (pc' := 18) rfl rfl ?_
      refine ir_w [(0, (4, 0)), (1, (2, ((0 : Nat) : Int))), (2, (2, ((582 : Nat) : Int))), (3, (0, i + 4))] ⟨rfl, rfl, rfl, rfl, trivial⟩ ?_
      exact ih (i + 4) s' (by omega) (by omega) hs (by omega)
    refine ir_l (pc' := 19) rfl rfl rfl rfl rfl rfl ?_
    refine ir_l (pc' := 20) rfl rfl rfl rfl rfl rfl ?_
    refine ir_xlen (pc' := 21) rfl rfl hL ?_
    refine ir_k (pc' := 22) (v := (0, 4)) rfl rfl rfl (fun _ => rfl) ?_
    refine ir_sub (pc' := 23) rfl rfl (by omega) (by omega) ?_
    refine ir_c_gt (pt := 542) (pc' := 26) rfl rfl rfl (fun c => ?_) (fun c => ?_)
    · refine ir_k (pc' := 543) (v := (0, 1)) rfl rfl rfl (fun _ => rfl) ?_
      exact ir_zret rfl rfl (Or.inr rfl) rfl
    have hi4 : i + 4 ≤ L := by omega
    refine ir_l (pc' := 27) rfl rfl rfl rfl rfl rfl ?_
    refine ir_l (pc' := 28) rfl rfl rfl rfl rfl rfl ?_
    refine ir_xld (pc' := 29) rfl rfl hL i0 (by omega) ?_
    refine ir_k (pc' := 31) (v := (0, 15)) rfl rfl rfl (fun _ => rfl) ?_
    refine ir_andm (pc' := 32) rfl rfl (by decide) (by decide) (fun z z0 z15 => ?_)
    rcases (show z = 0 ∨ z = 1 ∨ z = 2 ∨ z = 3 ∨ z = 4 ∨ z = 5 ∨ z = 6 ∨ z = 7 ∨ z = 8 ∨ z = 9 ∨ z = 10 ∨ z = 11 ∨ z = 12 ∨ z = 13 ∨ z = 14 ∨ (z < 0 ∨ 14 < z) by omega) with hz | hz | hz | hz | hz | hz | hz | hz | hz | hz | hz | hz | hz | hz | hz | hz
    · refine ir_tab (pc' := 108) 0 rfl (show z = 0 + ((0 : Nat) : Int) by omega) (by decide) rfl rfl ?_
      refine ir_l (pc' := 109) rfl rfl rfl rfl rfl rfl ?_
      refine ir_l (pc' := 110) rfl rfl rfl rfl rfl rfl ?_
      refine ir_l (pc' := 111) rfl rfl rfl rfl rfl rfl ?_
      refine ir_k (pc' := 112) (v := (0, 1)) rfl rfl rfl (fun _ => rfl) ?_
      refine ir_add (pc' := 113) rfl rfl (by omega) (by omega) ?_
      refine ir_xld (pc' := 114) rfl rfl hL (by omega) (by omega) ?_
      have hb := hI.2.2.1
      have e00 := hI.2.2.2.2.1
      refine ir_cVI (pc' := 117) rfl rfl rfl rfl rfl (Nat.le_of_ble_eq_true rfl) oo_X9_type (gG_at tsk_0) (icK (sf_type9 L ys 84 s hI.1 (ys (i + 1).toNat).toInt (i32_r _).1 (i32_r _).2) (X_type L ys 86 s hI2.2 (by omega) (by omega) (ys (i + 1).toNat).toInt (i32_r _))) (fun v s1 hr => ?_)
      obtain ⟨⟨r1, r2, _, _, r3⟩, ⟨K1, T1⟩, k1⟩ := hr
      have J1 : LJ s s1 := LJ_fr hI r1 r2 (by decide) (by decide)
      have w1 := J1.2.2.1 1
      refine ir_l (pc' := 118) rfl rfl rfl rfl rfl rfl ?_
      refine ir_l (pc' := 119) rfl rfl rfl rfl rfl rfl ?_
      refine ir_l (pc' := 120) rfl rfl rfl rfl rfl rfl ?_
      refine ir_k (pc' := 121) (v := (0, 1)) rfl rfl rfl (fun _ => rfl) ?_
      refine ir_add (pc' := 122) rfl rfl (by omega) (by omega) ?_
      refine ir_xld (pc' := 123) rfl rfl hL (by omega) (by omega) ?_
      refine ir_cVI (pc' := 126) rfl rfl rfl rfl rfl (Nat.le_of_ble_eq_true rfl) oo_X10_type vg_582 (icK (w_type L ys 84 s1 J1.2.1 (ys (i + 1).toNat).toInt (i32_r _) (fun z s' => fw [1] [583] s1 s' ∧ rd s' ∧ clf s1 s' ∧ ((z = -1 ∧ wgf s' 1 = wgf s1 1 ∧ ((ys (i + 1).toNat).toInt < 32 ∨ 126 < (ys (i + 1).toNat).toInt ∨ wgf s1 1 = 400)) ∨ (z = wgf s1 1 + 1 ∧ wgf s' 1 = z ∧ 32 ≤ (ys (i + 1).toNat).toInt ∧ (ys (i + 1).toNat).toInt ≤ 126 ∧ wgf s1 1 < 400))) (type_q (by omega) (fun z s' a b => ⟨a, fw_rd a J1.2.2.2.1, fw_clf a (fun c hc => by simp at hc; omega), b⟩))) (TR_type L ys 86 s1 J1.2.1 K1.1 (show 0 ≤ wgf s1 1 by omega) (show wgf s1 1 ≤ 400 by omega) (ys (i + 1).toNat).toInt (i32_r _))) (fun v2 s2 hr => ?_)
      obtain ⟨⟨q1, _, qf, q2, q3, q4⟩, T2⟩ := hr
      have ev : v = v2 := by omega
      refine ir_c_eq (pt := 536) (pc' := 129) rfl rfl rfl (fun _ => ?_) (fun q => absurd ev q)
      exact nxt s2 hi4 ⟨⟨⟨LI_ref (n := wgf s2 1) J1.1 J1.2.2.2.2 (by omega) q1 q3 rfl (by omega) q2, clf_KP q3 K1⟩, agr_w (P := tyq (ys (i + 1).toNat).toInt) tyq_agr hI hG (fr_rsm r2) T1 T2 q3⟩, RB_w hRB (fr_rsm r2) k1 qf⟩
    · refine ir_tab (pc' := 131) 1 rfl (show z = 0 + ((1 : Nat) : Int) by omega) (by decide) rfl rfl ?_
      refine ir_l (pc' := 132) rfl rfl rfl rfl rfl rfl ?_
      refine ir_l (pc' := 133) rfl rfl rfl rfl rfl rfl ?_
      refine ir_l (pc' := 134) rfl rfl rfl rfl rfl rfl ?_
      refine ir_k (pc' := 135) (v := (0, 1)) rfl rfl rfl (fun _ => rfl) ?_
      refine ir_add (pc' := 136) rfl rfl (by omega) (by omega) ?_
      refine ir_xld (pc' := 137) rfl rfl hL (by omega) (by omega) ?_
      have hb := hI.2.2.1
      have e00 := hI.2.2.2.2.1
      refine ir_cVI (pc' := 140) rfl rfl rfl rfl rfl (Nat.le_of_ble_eq_true rfl) oo_X9_four (gG_at tsk_0) (icK (sv_four9 L ys 84 s hI.1 (ys (i + 1).toNat).toInt (i32_r _).1 (i32_r _).2) (X_four L ys 86 s hI2.2 (by omega) (by omega) (ys (i + 1).toNat).toInt (i32_r _))) (fun v s1 hr => ?_)
      obtain ⟨⟨r1, r2, r3⟩, ⟨K1, T1⟩, k1⟩ := hr
      have J1 : LJ s s1 := LJ_fr hI r1 r2 (by decide) (by decide)
      have w1 := J1.2.2.1 1
      refine ir_l (pc' := 141) rfl rfl rfl rfl rfl rfl ?_
      refine ir_l (pc' := 142) rfl rfl rfl rfl rfl rfl ?_
      refine ir_l (pc' := 143) rfl rfl rfl rfl rfl rfl ?_
      refine ir_k (pc' := 144) (v := (0, 1)) rfl rfl rfl (fun _ => rfl) ?_
      refine ir_add (pc' := 145) rfl rfl (by omega) (by omega) ?_
      refine ir_xld (pc' := 146) rfl rfl hL (by omega) (by omega) ?_
      refine ir_cVI (pc' := 149) rfl rfl rfl rfl rfl (Nat.le_of_ble_eq_true rfl) oo_X10_four vg_582 (icK (w_four L ys 84 s1 J1.2.1 (ys (i + 1).toNat).toInt (i32_r _) (by omega)) (TR_four L ys 86 s1 J1.2.1 K1.1 (show 0 ≤ wgf s1 1 by omega) (show wgf s1 1 ≤ 400 by omega) (ys (i + 1).toNat).toInt (i32_r _))) (fun v2 s2 hr => ?_)
      obtain ⟨⟨q1, _, q2, q3⟩, T2⟩ := hr
      rw [e00] at r3
      rw [w1] at q3
      have ev := fsp_one r3 q3
      have bd := fsp_b hb q3
      obtain ⟨ev3, ev⟩ := ev
      have q2c := fw_clf q2 (fun c hc => by simp at hc; omega)
      refine ir_c_eq (pt := 536) (pc' := 152) rfl rfl rfl (fun _ => ?_) (fun q => absurd ev q)
      exact nxt s2 hi4 ⟨⟨⟨LI_ref (n := wgf s2 1) J1.1 J1.2.2.2.2 ev3 q1 q2c rfl bd (fw_rd q2 J1.2.2.2.1), clf_KP q2c K1⟩, agr_w (P := fsq (ys (i + 1).toNat).toInt) fsq_agr hI hG (fr_rsm r2) T1 T2 q2c⟩, RB_w hRB (fr_rsm r2) k1 q2⟩
    · refine ir_tab (pc' := 154) 2 rfl (show z = 0 + ((2 : Nat) : Int) by omega) (by decide) rfl rfl ?_
      refine ir_l (pc' := 155) rfl rfl rfl rfl rfl rfl ?_
      refine ir_cVI (pc' := 158) rfl rfl rfl rfl rfl (Nat.le_of_ble_eq_true rfl) oo_X9_load (gG_at tsk_0) (load_KZ L ys s hI hI2.2 n1 hG) (fun v s1 hr => ?_)
      obtain ⟨⟨⟨r1, r2, r3, r4⟩, K1⟩, R, hRD, zR, z1, z2, kR, ne9, tR9⟩ := hr
      have J1 : LJ s s1 := ⟨r1, rsm_vI r2 hI.2.1, fun f => rsm_f r2 f, rsm_rd r2 hI.2.2.2.1, r4⟩
      have w1 := J1.2.2.1 1
      have hb := hI.2.2.1
      refine ir_l (pc' := 159) rfl rfl rfl rfl rfl rfl ?_
      refine ir_cVI (pc' := 162) rfl rfl rfl rfl rfl (Nat.le_of_ble_eq_true rfl) oo_X10_load vg_582 (w_loady L ys 74 s1 J1.2.1 (fun v s' => wgf s' 1 = 0 ∧ rd s' ∧ clf s1 s' ∧ v = foz R ∧ wgf s' 2 = foz R ∧ wgf s' 3 = plz R ∧ wgf s' 5 = knz R ∧ ∀ j A, R = .inr (j, A) → rat s' A.1 ∧ RLZ s' A) (load_qz K1.1 (by omega) (rtx_s hI hG r2) hRD (fun v s' a b c d e2 e3 e5 g => ⟨a, b, c, d, e2, e3, e5, g⟩))) (fun v2 s2 hr => ?_)
      obtain ⟨q1, _, q2, q3, q4, q5, q6, q62, q63, q7⟩ := hr
      have ev : v = v2 := zR.trans q5.symm
      refine ir_c_eq (pt := 536) (pc' := 165) rfl rfl rfl (fun _ => ?_) (fun q => absurd ev q)
      exact nxt s2 hi4 ⟨⟨⟨LI_ref (n := 0) J1.1 J1.2.2.2.2 r3 q1 q4 q2 (by decide) q3, clf_KP q4 K1⟩, agr_0 (((q4 0 0 (by decide)).1).trans r3)⟩, RB_l hRD z1 z2 kR ne9 tR9 q4 q6 q62 q63 q7⟩
    · refine ir_tab (pc' := 167) 3 rfl (show z = 0 + ((3 : Nat) : Int) by omega) (by decide) rfl rfl ?_
      refine ir_l (pc' := 168) rfl rfl rfl rfl rfl rfl ?_
      refine ir_l (pc' := 169) rfl rfl rfl rfl rfl rfl ?_
      refine ir_l (pc' := 170) rfl rfl rfl rfl rfl rfl ?_
      refine ir_k (pc' := 171) (v := (0, 1)) rfl rfl rfl (fun _ => rfl) ?_
      refine ir_add (pc' := 172) rfl rfl (by omega) (by omega) ?_
      refine ir_xld (pc' := 173) rfl rfl hL (by omega) (by omega) ?_
      refine ir_cVI (pc' := 176) rfl rfl rfl rfl rfl (Nat.le_of_ble_eq_true rfl) oo_X9_count (gG_at tsk_0) (icK (sf_count9 L ys 85 s hI.1 (ys (i + 1).toNat).toInt (i32_r _).1 (i32_r _).2) (Vc_count L ys 86 s hI2.2 hB (ys (i + 1).toNat).toInt (i32_r _))) (fun v s1 hr => ?_)
      obtain ⟨⟨r1, r2, zr⟩, ⟨K1, T1⟩, S1, V1⟩ := hr
      have J1 : LJ s s1 := LJ_fr hI r1 r2 (by decide) (by decide)
      have J0 := LJ_0 hI r2 (by decide)
      have w1 := J1.2.2.1 1
      have hb := hI.2.2.1
      refine ir_l (pc' := 177) rfl rfl rfl rfl rfl rfl ?_
      refine ir_l (pc' := 178) rfl rfl rfl rfl rfl rfl ?_
      refine ir_l (pc' := 179) rfl rfl rfl rfl rfl rfl ?_
      refine ir_k (pc' := 180) (v := (0, 1)) rfl rfl rfl (fun _ => rfl) ?_
      refine ir_add (pc' := 181) rfl rfl (by omega) (by omega) ?_
      refine ir_xld (pc' := 182) rfl rfl hL (by omega) (by omega) ?_
      have hR1 : wgf s1 5 ≠ 0 → RBd s1 At N9 nb9 b9 T9 f9 F9 lo9 hi9 ds9 od9 tb9 hd9 := fun q => RBd_rs (hR (by rw [← rsm_f (fr_rsm r2)]; exact q)) (fr_rsm r2)
      refine ir_cVI (pc' := 185) rfl rfl rfl rfl rfl (Nat.le_of_ble_eq_true rfl) oo_X10_count vg_582 (w_count L ys 83 s1 J1.2.1 (ys (i + 1).toNat).toInt (i32_r _) _ (Vr_count J1.2.2.2.1 hR1)) (fun v2 s2 hr => ?_)
      obtain ⟨q1, zr2, q2, q3, q5, R2, V2⟩ := hr
      have ev : v = v2 := Ve_count n4 hB hR (fr_rsm r2) n2 n3 hI.2.2.2.2.1 V1 V2
      have q4 := rfq_clf q5
      refine ir_c_eq (pt := 536) (pc' := 188) rfl rfl rfl (fun _ => ?_) (fun q => absurd ev q)
      exact nxt s2 hi4 ⟨⟨⟨LI_ref (n := wgf s 1) J1.1 J1.2.2.2.2 J0 q1 q4 (q2.trans w1) hb q3, clf_KP q4 K1⟩, agr_o hI hG (fr_rsm r2) J0 T1 q5⟩, RB_o n1 n2 n3 n4 hB (fr_rsm r2) T1 S1 q5 R2⟩
    · refine ir_tab (pc' := 190) 4 rfl (show z = 0 + ((4 : Nat) : Int) by omega) (by decide) rfl rfl ?_
      refine ir_l (pc' := 191) rfl rfl rfl rfl rfl rfl ?_
      refine ir_l (pc' := 192) rfl rfl rfl rfl rfl rfl ?_
      refine ir_l (pc' := 193) rfl rfl rfl rfl rfl rfl ?_
      refine ir_k (pc' := 194) (v := (0, 1)) rfl rfl rfl (fun _ => rfl) ?_
      refine ir_add (pc' := 195) rfl rfl (by omega) (by omega) ?_
      refine ir_xld (pc' := 196) rfl rfl hL (by omega) (by omega) ?_
      refine ir_l (pc' := 197) rfl rfl rfl rfl rfl rfl ?_
      refine ir_l (pc' := 198) rfl rfl rfl rfl rfl rfl ?_
      refine ir_k (pc' := 199) (v := (0, 2)) rfl rfl rfl (fun _ => rfl) ?_
      refine ir_add (pc' := 200) rfl rfl (by omega) (by omega) ?_
      refine ir_xld (pc' := 201) rfl rfl hL (by omega) (by omega) ?_
      refine ir_cVI (pc' := 204) rfl rfl rfl rfl rfl (Nat.le_of_ble_eq_true rfl) oo_X9_atom (gG_at tsk_0) (icK (sf_atom9 L ys 82 s hI.1 (ys (i + 1).toNat).toInt (i32_r _).1 (i32_r _).2 (ys (i + 2).toNat).toInt (i32_r _).1 (i32_r _).2) (Vc_atom L ys 86 s hI2.2 hB (ys (i + 1).toNat).toInt (i32_r _) (ys (i + 2).toNat).toInt (i32_r _))) (fun v s1 hr => ?_)
      obtain ⟨⟨r1, r2, zr⟩, ⟨K1, T1⟩, S1, V1⟩ := hr
      have J1 : LJ s s1 := LJ_fr hI r1 r2 (by decide) (by decide)
      have J0 := LJ_0 hI r2 (by decide)
      have w1 := J1.2.2.1 1
      have hb := hI.2.2.1
      refine ir_l (pc' := 205) rfl rfl rfl rfl rfl rfl ?_
      refine ir_l (pc' := 206) rfl rfl rfl rfl rfl rfl ?_
      refine ir_l (pc' := 207) rfl rfl rfl rfl rfl rfl ?_
      refine ir_k (pc' := 208) (v := (0, 1)) rfl rfl rfl (fun _ => rfl) ?_
      refine ir_add (pc' := 209) rfl rfl (by omega) (by omega) ?_
      refine ir_xld (pc' := 210) rfl rfl hL (by omega) (by omega) ?_
      refine ir_l (pc' := 211) rfl rfl rfl rfl rfl rfl ?_
      refine ir_l (pc' := 212) rfl rfl rfl rfl rfl rfl ?_
      refine ir_k (pc' := 213) (v := (0, 2)) rfl rfl rfl (fun _ => rfl) ?_
      refine ir_add (pc' := 214) rfl rfl (by omega) (by omega) ?_
      refine ir_xld (pc' := 215) rfl rfl hL (by omega) (by omega) ?_
      have hR1 : wgf s1 5 ≠ 0 → RBd s1 At N9 nb9 b9 T9 f9 F9 lo9 hi9 ds9 od9 tb9 hd9 := fun q => RBd_rs (hR (by rw [← rsm_f (fr_rsm r2)]; exact q)) (fr_rsm r2)
      refine ir_cVI (pc' := 218) rfl rfl rfl rfl rfl (Nat.le_of_ble_eq_true rfl) oo_X10_atom vg_582 (w_atom L ys 84 s1 J1.2.1 (ys (i + 1).toNat).toInt (i32_r _) (ys (i + 2).toNat).toInt (i32_r _) _ (Vr_atom J1.2.2.2.1 hR1)) (fun v2 s2 hr => ?_)
      obtain ⟨q1, zr2, q2, q3, q5, R2, V2⟩ := hr
      have ev : v = v2 := Ve_atom n4 hB hR (fr_rsm r2) n2 n3 hI.2.2.2.2.1 V1 V2
      have q4 := rfq_clf q5
      refine ir_c_eq (pt := 536) (pc' := 221) rfl rfl rfl (fun _ => ?_) (fun q => absurd ev q)
      exact nxt s2 hi4 ⟨⟨⟨LI_ref (n := wgf s 1) J1.1 J1.2.2.2.2 J0 q1 q4 (q2.trans w1) hb q3, clf_KP q4 K1⟩, agr_o hI hG (fr_rsm r2) J0 T1 q5⟩, RB_o n1 n2 n3 n4 hB (fr_rsm r2) T1 S1 q5 R2⟩
    · refine ir_tab (pc' := 223) 5 rfl (show z = 0 + ((5 : Nat) : Int) by omega) (by decide) rfl rfl ?_
      refine ir_l (pc' := 224) rfl rfl rfl rfl rfl rfl ?_
      refine ir_l (pc' := 225) rfl rfl rfl rfl rfl rfl ?_
      refine ir_l (pc' := 226) rfl rfl rfl rfl rfl rfl ?_
      refine ir_k (pc' := 227) (v := (0, 1)) rfl rfl rfl (fun _ => rfl) ?_
      refine ir_add (pc' := 228) rfl rfl (by omega) (by omega) ?_
      refine ir_xld (pc' := 229) rfl rfl hL (by omega) (by omega) ?_
      refine ir_cVI (pc' := 232) rfl rfl rfl rfl rfl (Nat.le_of_ble_eq_true rfl) oo_X9_judge (gG_at tsk_0) (icK (sf_judge9 L ys 85 s hI.1 (ys (i + 1).toNat).toInt (i32_r _).1 (i32_r _).2) (Vc_judge L ys 86 s hI2.2 hB (ys (i + 1).toNat).toInt (i32_r _))) (fun v s1 hr => ?_)
      obtain ⟨⟨r1, r2, zr⟩, ⟨K1, T1⟩, S1, V1⟩ := hr
      have J1 : LJ s s1 := LJ_fr hI r1 r2 (by decide) (by decide)
      have J0 := LJ_0 hI r2 (by decide)
      have w1 := J1.2.2.1 1
      have hb := hI.2.2.1
      refine ir_l (pc' := 233) rfl rfl rfl rfl rfl rfl ?_
      refine ir_l (pc' := 234) rfl rfl rfl rfl rfl rfl ?_
      refine ir_l (pc' := 235) rfl rfl rfl rfl rfl rfl ?_
      refine ir_k (pc' := 236) (v := (0, 1)) rfl rfl rfl (fun _ => rfl) ?_
      refine ir_add (pc' := 237) rfl rfl (by omega) (by omega) ?_
      refine ir_xld (pc' := 238) rfl rfl hL (by omega) (by omega) ?_
      have hR1 : wgf s1 5 ≠ 0 → RBd s1 At N9 nb9 b9 T9 f9 F9 lo9 hi9 ds9 od9 tb9 hd9 := fun q => RBd_rs (hR (by rw [← rsm_f (fr_rsm r2)]; exact q)) (fr_rsm r2)
      refine ir_cVI (pc' := 241) rfl rfl rfl rfl rfl (Nat.le_of_ble_eq_true rfl) oo_X10_judge vg_582 (w_judge L ys 83 s1 J1.2.1 (ys (i + 1).toNat).toInt (i32_r _) _ (Vr_judge J1.2.2.2.1 hR1)) (fun v2 s2 hr => ?_)
      obtain ⟨q1, zr2, q2, q3, q5, R2, V2⟩ := hr
      have ev : v = v2 := Ve_judge n4 hB hR (fr_rsm r2) n2 n3 hI.2.2.2.2.1 V1 V2
      have q4 := rfq_clf q5
      refine ir_c_eq (pt := 536) (pc' := 244) rfl rfl rfl (fun _ => ?_) (fun q => absurd ev q)
      exact nxt s2 hi4 ⟨⟨⟨LI_ref (n := wgf s 1) J1.1 J1.2.2.2.2 J0 q1 q4 (q2.trans w1) hb q3, clf_KP q4 K1⟩, agr_o hI hG (fr_rsm r2) J0 T1 q5⟩, RB_o n1 n2 n3 n4 hB (fr_rsm r2) T1 S1 q5 R2⟩
    · refine ir_tab (pc' := 246) 6 rfl (show z = 0 + ((6 : Nat) : Int) by omega) (by decide) rfl rfl ?_
      refine ir_l (pc' := 247) rfl rfl rfl rfl rfl rfl ?_
      refine ir_l (pc' := 248) rfl rfl rfl rfl rfl rfl ?_
      refine ir_l (pc' := 249) rfl rfl rfl rfl rfl rfl ?_
      refine ir_k (pc' := 250) (v := (0, 1)) rfl rfl rfl (fun _ => rfl) ?_
      refine ir_add (pc' := 251) rfl rfl (by omega) (by omega) ?_
      refine ir_xld (pc' := 252) rfl rfl hL (by omega) (by omega) ?_
      refine ir_cVI (pc' := 255) rfl rfl rfl rfl rfl (Nat.le_of_ble_eq_true rfl) oo_X9_holds (gG_at tsk_0) (icK (sf_holds9 L ys 84 s hI.1 (ys (i + 1).toNat).toInt (i32_r _).1 (i32_r _).2) (Vc_holds L ys 86 s hI2.2 hB (ys (i + 1).toNat).toInt (i32_r _))) (fun v s1 hr => ?_)
      obtain ⟨⟨r1, r2, zr⟩, ⟨K1, T1⟩, S1, V1⟩ := hr
      have J1 : LJ s s1 := LJ_fr hI r1 r2 (by decide) (by decide)
      have J0 := LJ_0 hI r2 (by decide)
      have w1 := J1.2.2.1 1
      have hb := hI.2.2.1
      refine ir_l (pc' := 256) rfl rfl rfl rfl rfl rfl ?_
      refine ir_l (pc' := 257) rfl rfl rfl rfl rfl rfl ?_
      refine ir_l (pc' := 258) rfl rfl rfl rfl rfl rfl ?_
      refine ir_k (pc' := 259) (v := (0, 1)) rfl rfl rfl (fun _ => rfl) ?_
      refine ir_add (pc' := 260) rfl rfl (by omega) (by omega) ?_
      refine ir_xld (pc' := 261) rfl rfl hL (by omega) (by omega) ?_
      have hR1 : wgf s1 5 ≠ 0 → RBd s1 At N9 nb9 b9 T9 f9 F9 lo9 hi9 ds9 od9 tb9 hd9 := fun q => RBd_rs (hR (by rw [← rsm_f (fr_rsm r2)]; exact q)) (fr_rsm r2)
      refine ir_cVI (pc' := 264) rfl rfl rfl rfl rfl (Nat.le_of_ble_eq_true rfl) oo_X10_holds vg_582 (w_holds L ys 83 s1 J1.2.1 (ys (i + 1).toNat).toInt (i32_r _) _ (Vr_holds J1.2.2.2.1 hR1)) (fun v2 s2 hr => ?_)
      obtain ⟨q1, zr2, q2, q3, q5, R2, V2⟩ := hr
      have ev : v = v2 := Ve_holds n4 hB hR (fr_rsm r2) n2 n3 hI.2.2.2.2.1 V1 V2
      have q4 := rfq_clf q5
      refine ir_c_eq (pt := 536) (pc' := 267) rfl rfl rfl (fun _ => ?_) (fun q => absurd ev q)
      exact nxt s2 hi4 ⟨⟨⟨LI_ref (n := wgf s 1) J1.1 J1.2.2.2.2 J0 q1 q4 (q2.trans w1) hb q3, clf_KP q4 K1⟩, agr_o hI hG (fr_rsm r2) J0 T1 q5⟩, RB_o n1 n2 n3 n4 hB (fr_rsm r2) T1 S1 q5 R2⟩
    · refine ir_tab (pc' := 269) 7 rfl (show z = 0 + ((7 : Nat) : Int) by omega) (by decide) rfl rfl ?_
      refine ir_l (pc' := 270) rfl rfl rfl rfl rfl rfl ?_
      refine ir_l (pc' := 271) rfl rfl rfl rfl rfl rfl ?_
      refine ir_l (pc' := 272) rfl rfl rfl rfl rfl rfl ?_
      refine ir_k (pc' := 273) (v := (0, 1)) rfl rfl rfl (fun _ => rfl) ?_
      refine ir_add (pc' := 274) rfl rfl (by omega) (by omega) ?_
      refine ir_xld (pc' := 275) rfl rfl hL (by omega) (by omega) ?_
      refine ir_l (pc' := 276) rfl rfl rfl rfl rfl rfl ?_
      refine ir_l (pc' := 277) rfl rfl rfl rfl rfl rfl ?_
      refine ir_k (pc' := 278) (v := (0, 2)) rfl rfl rfl (fun _ => rfl) ?_
      refine ir_add (pc' := 279) rfl rfl (by omega) (by omega) ?_
      refine ir_xld (pc' := 280) rfl rfl hL (by omega) (by omega) ?_
      refine ir_cVI (pc' := 283) rfl rfl rfl rfl rfl (Nat.le_of_ble_eq_true rfl) oo_X9_sign (gG_at tsk_0) (icK (sf_sign9 L ys 84 s hI.1 (ys (i + 1).toNat).toInt (i32_r _).1 (i32_r _).2 (ys (i + 2).toNat).toInt (i32_r _).1 (i32_r _).2) (Vc_sign L ys 86 s hI2.2 hB (ys (i + 1).toNat).toInt (i32_r _) (ys (i + 2).toNat).toInt (i32_r _))) (fun v s1 hr => ?_)
      obtain ⟨⟨r1, r2, zr⟩, ⟨K1, T1⟩, S1, V1⟩ := hr
      have J1 : LJ s s1 := LJ_fr hI r1 r2 (by decide) (by decide)
      have J0 := LJ_0 hI r2 (by decide)
      have w1 := J1.2.2.1 1
      have hb := hI.2.2.1
      refine ir_l (pc' := 284) rfl rfl rfl rfl rfl rfl ?_
      refine ir_l (pc' := 285) rfl rfl rfl rfl rfl rfl ?_
      refine ir_l (pc' := 286) rfl rfl rfl rfl rfl rfl ?_
      refine ir_k (pc' := 287) (v := (0, 1)) rfl rfl rfl (fun _ => rfl) ?_
      refine ir_add (pc' := 288) rfl rfl (by omega) (by omega) ?_
      refine ir_xld (pc' := 289) rfl rfl hL (by omega) (by omega) ?_
      refine ir_l (pc' := 290) rfl rfl rfl rfl rfl rfl ?_
      refine ir_l (pc' := 291) rfl rfl rfl rfl rfl rfl ?_
      refine ir_k (pc' := 292) (v := (0, 2)) rfl rfl rfl (fun _ => rfl) ?_
      refine ir_add (pc' := 293) rfl rfl (by omega) (by omega) ?_
      refine ir_xld (pc' := 294) rfl rfl hL (by omega) (by omega) ?_
      have hR1 : wgf s1 5 ≠ 0 → RBd s1 At N9 nb9 b9 T9 f9 F9 lo9 hi9 ds9 od9 tb9 hd9 := fun q => RBd_rs (hR (by rw [← rsm_f (fr_rsm r2)]; exact q)) (fr_rsm r2)
      refine ir_cVI (pc' := 297) rfl rfl rfl rfl rfl (Nat.le_of_ble_eq_true rfl) oo_X10_sign vg_582 (w_sign L ys 83 s1 J1.2.1 (ys (i + 1).toNat).toInt (i32_r _) (ys (i + 2).toNat).toInt (i32_r _) _ (Vr_sign J1.2.2.2.1 hR1)) (fun v2 s2 hr => ?_)
      obtain ⟨q1, zr2, q2, q3, q5, R2, V2⟩ := hr
      have ev : v = v2 := Ve_sign n4 hB hR (fr_rsm r2) n2 n3 hI.2.2.2.2.1 V1 V2
      have q4 := rfq_clf q5
      refine ir_c_eq (pt := 536) (pc' := 300) rfl rfl rfl (fun _ => ?_) (fun q => absurd ev q)
      exact nxt s2 hi4 ⟨⟨⟨LI_ref (n := wgf s 1) J1.1 J1.2.2.2.2 J0 q1 q4 (q2.trans w1) hb q3, clf_KP q4 K1⟩, agr_o hI hG (fr_rsm r2) J0 T1 q5⟩, RB_o n1 n2 n3 n4 hB (fr_rsm r2) T1 S1 q5 R2⟩
    · refine ir_tab (pc' := 302) 8 rfl (show z = 0 + ((8 : Nat) : Int) by omega) (by decide) rfl rfl ?_
      refine ir_l (pc' := 303) rfl rfl rfl rfl rfl rfl ?_
      refine ir_l (pc' := 304) rfl rfl rfl rfl rfl rfl ?_
      refine ir_l (pc' := 305) rfl rfl rfl rfl rfl rfl ?_
      refine ir_k (pc' := 306) (v := (0, 1)) rfl rfl rfl (fun _ => rfl) ?_
      refine ir_add (pc' := 307) rfl rfl (by omega) (by omega) ?_
      refine ir_xld (pc' := 308) rfl rfl hL (by omega) (by omega) ?_
      refine ir_l (pc' := 309) rfl rfl rfl rfl rfl rfl ?_
      refine ir_l (pc' := 310) rfl rfl rfl rfl rfl rfl ?_
      refine ir_k (pc' := 311) (v := (0, 2)) rfl rfl rfl (fun _ => rfl) ?_
      refine ir_add (pc' := 312) rfl rfl (by omega) (by omega) ?_
      refine ir_xld (pc' := 313) rfl rfl hL (by omega) (by omega) ?_
      refine ir_cVI (pc' := 316) rfl rfl rfl rfl rfl (Nat.le_of_ble_eq_true rfl) oo_X9_root (gG_at tsk_0) (icK (sf_root9 L ys 79 s hI.1 (ys (i + 1).toNat).toInt (i32_r _).1 (i32_r _).2 (ys (i + 2).toNat).toInt (i32_r _).1 (i32_r _).2 hI.2.2.2.2.2) (Vc_root L ys 86 s hI2.2 hB (ys (i + 1).toNat).toInt (i32_r _) (ys (i + 2).toNat).toInt (i32_r _))) (fun v s1 hr => ?_)
      obtain ⟨⟨r1, r2, zr⟩, ⟨K1, T1⟩, S1, V1⟩ := hr
      have J1 : LJ s s1 := LJ_fr hI r1 r2 (by decide) (by decide)
      have J0 := LJ_0 hI r2 (by decide)
      have w1 := J1.2.2.1 1
      have hb := hI.2.2.1
      refine ir_l (pc' := 317) rfl rfl rfl rfl rfl rfl ?_
      refine ir_l (pc' := 318) rfl rfl rfl rfl rfl rfl ?_
      refine ir_l (pc' := 319) rfl rfl rfl rfl rfl rfl ?_
      refine ir_k (pc' := 320) (v := (0, 1)) rfl rfl rfl (fun _ => rfl) ?_
      refine ir_add (pc' := 321) rfl rfl (by omega) (by omega) ?_
      refine ir_xld (pc' := 322) rfl rfl hL (by omega) (by omega) ?_
      refine ir_l (pc' := 323) rfl rfl rfl rfl rfl rfl ?_
      refine ir_l (pc' := 324) rfl rfl rfl rfl rfl rfl ?_
      refine ir_k (pc' := 325) (v := (0, 2)) rfl rfl rfl (fun _ => rfl) ?_
      refine ir_add (pc' := 326) rfl rfl (by omega) (by omega) ?_
      refine ir_xld (pc' := 327) rfl rfl hL (by omega) (by omega) ?_
      have hR1 : wgf s1 5 ≠ 0 → RBd s1 At N9 nb9 b9 T9 f9 F9 lo9 hi9 ds9 od9 tb9 hd9 := fun q => RBd_rs (hR (by rw [← rsm_f (fr_rsm r2)]; exact q)) (fr_rsm r2)
      refine ir_cVI (pc' := 330) rfl rfl rfl rfl rfl (Nat.le_of_ble_eq_true rfl) oo_X10_root vg_582 (w_root L ys 78 s1 J1.2.1 (ys (i + 1).toNat).toInt (i32_r _) (ys (i + 2).toNat).toInt (i32_r _) _ (Vr_root J1.2.2.2.1 hR1)) (fun v2 s2 hr => ?_)
      obtain ⟨q1, zr2, q2, q3, q5, R2, V2⟩ := hr
      have ev : v = v2 := Ve_root n4 hB hR (fr_rsm r2) n2 n3 hI.2.2.2.2.1 V1 V2
      have q4 := rfq_clf q5
      refine ir_lcmp (pc' := 331) rfl rfl zr.1 zr.2 zr2.1 zr2.2 (fun z9 hz9 => ?_)
      refine ir_z_eq (pt := 536) (pc' := 334) rfl rfl rfl (fun _ => ?_) (fun q => absurd (show z9 = 0 by omega) q)
      exact nxt s2 hi4 ⟨⟨⟨LI_ref (n := wgf s 1) J1.1 J1.2.2.2.2 J0 q1 q4 (q2.trans w1) hb q3, clf_KP q4 K1⟩, agr_o hI hG (fr_rsm r2) J0 T1 q5⟩, RB_o n1 n2 n3 n4 hB (fr_rsm r2) T1 S1 q5 R2⟩
    · refine ir_tab (pc' := 336) 9 rfl (show z = 0 + ((9 : Nat) : Int) by omega) (by decide) rfl rfl ?_
      refine ir_l (pc' := 337) rfl rfl rfl rfl rfl rfl ?_
      refine ir_l (pc' := 338) rfl rfl rfl rfl rfl rfl ?_
      refine ir_l (pc' := 339) rfl rfl rfl rfl rfl rfl ?_
      refine ir_k (pc' := 340) (v := (0, 1)) rfl rfl rfl (fun _ => rfl) ?_
      refine ir_add (pc' := 341) rfl rfl (by omega) (by omega) ?_
      refine ir_xld (pc' := 342) rfl rfl hL (by omega) (by omega) ?_
      refine ir_l (pc' := 343) rfl rfl rfl rfl rfl rfl ?_
      refine ir_l (pc' := 344) rfl rfl rfl rfl rfl rfl ?_
      refine ir_k (pc' := 345) (v := (0, 2)) rfl rfl rfl (fun _ => rfl) ?_
      refine ir_add (pc' := 346) rfl rfl (by omega) (by omega) ?_
      refine ir_xld (pc' := 347) rfl rfl hL (by omega) (by omega) ?_
      refine ir_cVI (pc' := 350) rfl rfl rfl rfl rfl (Nat.le_of_ble_eq_true rfl) oo_X9_times (gG_at tsk_0) (icK (sf_times9 L ys 83 s hI.1 (ys (i + 1).toNat).toInt (i32_r _).1 (i32_r _).2 (ys (i + 2).toNat).toInt (i32_r _).1 (i32_r _).2) (Vc_times L ys 86 s hI2.2 hB (ys (i + 1).toNat).toInt (i32_r _) (ys (i + 2).toNat).toInt (i32_r _))) (fun v s1 hr => ?_)
      obtain ⟨⟨r1, r2, zr⟩, ⟨K1, T1⟩, S1, V1⟩ := hr
      have J1 : LJ s s1 := LJ_fr hI r1 r2 (by decide) (by decide)
      have J0 := LJ_0 hI r2 (by decide)
      have w1 := J1.2.2.1 1
      have hb := hI.2.2.1
      refine ir_l (pc' := 351) rfl rfl rfl rfl rfl rfl ?_
      refine ir_l (pc' := 352) rfl rfl rfl rfl rfl rfl ?_
      refine ir_l (pc' := 353) rfl rfl rfl rfl rfl rfl ?_
      refine ir_k (pc' := 354) (v := (0, 1)) rfl rfl rfl (fun _ => rfl) ?_
      refine ir_add (pc' := 355) rfl rfl (by omega) (by omega) ?_
      refine ir_xld (pc' := 356) rfl rfl hL (by omega) (by omega) ?_
      refine ir_l (pc' := 357) rfl rfl rfl rfl rfl rfl ?_
      refine ir_l (pc' := 358) rfl rfl rfl rfl rfl rfl ?_
      refine ir_k (pc' := 359) (v := (0, 2)) rfl rfl rfl (fun _ => rfl) ?_
      refine ir_add (pc' := 360) rfl rfl (by omega) (by omega) ?_
      refine ir_xld (pc' := 361) rfl rfl hL (by omega) (by omega) ?_
      have hR1 : wgf s1 5 ≠ 0 → RBd s1 At N9 nb9 b9 T9 f9 F9 lo9 hi9 ds9 od9 tb9 hd9 := fun q => RBd_rs (hR (by rw [← rsm_f (fr_rsm r2)]; exact q)) (fr_rsm r2)
      refine ir_cVI (pc' := 364) rfl rfl rfl rfl rfl (Nat.le_of_ble_eq_true rfl) oo_X10_times vg_582 (w_times L ys 84 s1 J1.2.1 (ys (i + 1).toNat).toInt (i32_r _) (ys (i + 2).toNat).toInt (i32_r _) _ (Vr_times J1.2.2.2.1 hR1)) (fun v2 s2 hr => ?_)
      obtain ⟨q1, zr2, q2, q3, q5, R2, V2⟩ := hr
      have ev : v = v2 := Ve_times n4 hB hR (fr_rsm r2) n2 n3 hI.2.2.2.2.1 V1 V2
      have q4 := rfq_clf q5
      refine ir_c_eq (pt := 536) (pc' := 367) rfl rfl rfl (fun _ => ?_) (fun q => absurd ev q)
      exact nxt s2 hi4 ⟨⟨⟨LI_ref (n := wgf s 1) J1.1 J1.2.2.2.2 J0 q1 q4 (q2.trans w1) hb q3, clf_KP q4 K1⟩, agr_o hI hG (fr_rsm r2) J0 T1 q5⟩, RB_o n1 n2 n3 n4 hB (fr_rsm r2) T1 S1 q5 R2⟩
    · refine ir_tab (pc' := 369) 10 rfl (show z = 0 + ((10 : Nat) : Int) by omega) (by decide) rfl rfl ?_
      refine ir_l (pc' := 370) rfl rfl rfl rfl rfl rfl ?_
      refine ir_l (pc' := 371) rfl rfl rfl rfl rfl rfl ?_
      refine ir_l (pc' := 372) rfl rfl rfl rfl rfl rfl ?_
      refine ir_k (pc' := 373) (v := (0, 1)) rfl rfl rfl (fun _ => rfl) ?_
      refine ir_add (pc' := 374) rfl rfl (by omega) (by omega) ?_
      refine ir_xld (pc' := 375) rfl rfl hL (by omega) (by omega) ?_
      refine ir_l (pc' := 376) rfl rfl rfl rfl rfl rfl ?_
      refine ir_l (pc' := 377) rfl rfl rfl rfl rfl rfl ?_
      refine ir_k (pc' := 378) (v := (0, 2)) rfl rfl rfl (fun _ => rfl) ?_
      refine ir_add (pc' := 379) rfl rfl (by omega) (by omega) ?_
      refine ir_xld (pc' := 380) rfl rfl hL (by omega) (by omega) ?_
      refine ir_cVI (pc' := 383) rfl rfl rfl rfl rfl (Nat.le_of_ble_eq_true rfl) oo_X9_exact (gG_at tsk_0) (icK (sf_exact9 L ys 83 s hI.1 (ys (i + 1).toNat).toInt (i32_r _).1 (i32_r _).2 (ys (i + 2).toNat).toInt (i32_r _).1 (i32_r _).2) (Vc_exact L ys 86 s hI2.2 hB (ys (i + 1).toNat).toInt (i32_r _) (ys (i + 2).toNat).toInt (i32_r _))) (fun v s1 hr => ?_)
      obtain ⟨⟨r1, r2, zr⟩, ⟨K1, T1⟩, S1, V1⟩ := hr
      have J1 : LJ s s1 := LJ_fr hI r1 r2 (by decide) (by decide)
      have J0 := LJ_0 hI r2 (by decide)
      have w1 := J1.2.2.1 1
      have hb := hI.2.2.1
      refine ir_l (pc' := 384) rfl rfl rfl rfl rfl rfl ?_
      refine ir_l (pc' := 385) rfl rfl rfl rfl rfl rfl ?_
      refine ir_l (pc' := 386) rfl rfl rfl rfl rfl rfl ?_
      refine ir_k (pc' := 387) (v := (0, 1)) rfl rfl rfl (fun _ => rfl) ?_
      refine ir_add (pc' := 388) rfl rfl (by omega) (by omega) ?_
      refine ir_xld (pc' := 389) rfl rfl hL (by omega) (by omega) ?_
      refine ir_l (pc' := 390) rfl rfl rfl rfl rfl rfl ?_
      refine ir_l (pc' := 391) rfl rfl rfl rfl rfl rfl ?_
      refine ir_k (pc' := 392) (v := (0, 2)) rfl rfl rfl (fun _ => rfl) ?_
      refine ir_add (pc' := 393) rfl rfl (by omega) (by omega) ?_
      refine ir_xld (pc' := 394) rfl rfl hL (by omega) (by omega) ?_
      have hR1 : wgf s1 5 ≠ 0 → RBd s1 At N9 nb9 b9 T9 f9 F9 lo9 hi9 ds9 od9 tb9 hd9 := fun q => RBd_rs (hR (by rw [← rsm_f (fr_rsm r2)]; exact q)) (fr_rsm r2)
      refine ir_cVI (pc' := 397) rfl rfl rfl rfl rfl (Nat.le_of_ble_eq_true rfl) oo_X10_exact vg_582 (w_exact L ys 84 s1 J1.2.1 (ys (i + 1).toNat).toInt (i32_r _) (ys (i + 2).toNat).toInt (i32_r _) _ (Vr_exact J1.2.2.2.1 hR1)) (fun v2 s2 hr => ?_)
      obtain ⟨q1, zr2, q2, q3, q5, R2, V2⟩ := hr
      have ev : v = v2 := Ve_exact n4 hB hR (fr_rsm r2) n2 n3 hI.2.2.2.2.1 V1 V2
      have q4 := rfq_clf q5
      refine ir_lcmp (pc' := 398) rfl rfl zr.1 zr.2 zr2.1 zr2.2 (fun z9 hz9 => ?_)
      refine ir_z_eq (pt := 536) (pc' := 401) rfl rfl rfl (fun _ => ?_) (fun q => absurd (show z9 = 0 by omega) q)
      exact nxt s2 hi4 ⟨⟨⟨LI_ref (n := wgf s 1) J1.1 J1.2.2.2.2 J0 q1 q4 (q2.trans w1) hb q3, clf_KP q4 K1⟩, agr_o hI hG (fr_rsm r2) J0 T1 q5⟩, RB_o n1 n2 n3 n4 hB (fr_rsm r2) T1 S1 q5 R2⟩
    · refine ir_tab (pc' := 403) 11 rfl (show z = 0 + ((11 : Nat) : Int) by omega) (by decide) rfl rfl ?_
      refine ir_l (pc' := 404) rfl rfl rfl rfl rfl rfl ?_
      refine ir_l (pc' := 405) rfl rfl rfl rfl rfl rfl ?_
      refine ir_l (pc' := 406) rfl rfl rfl rfl rfl rfl ?_
      refine ir_k (pc' := 407) (v := (0, 1)) rfl rfl rfl (fun _ => rfl) ?_
      refine ir_add (pc' := 408) rfl rfl (by omega) (by omega) ?_
      refine ir_xld (pc' := 409) rfl rfl hL (by omega) (by omega) ?_
      refine ir_cVI (pc' := 412) rfl rfl rfl rfl rfl (Nat.le_of_ble_eq_true rfl) oo_X9_common (gG_at tsk_0) (icK (sf_common9 L ys 83 s hI.1 (ys (i + 1).toNat).toInt (i32_r _).1 (i32_r _).2) (Vc_common L ys 86 s hI2.2 hB (ys (i + 1).toNat).toInt (i32_r _))) (fun v s1 hr => ?_)
      obtain ⟨⟨r1, r2, zr⟩, ⟨K1, T1⟩, S1, V1⟩ := hr
      have J1 : LJ s s1 := LJ_fr hI r1 r2 (by decide) (by decide)
      have J0 := LJ_0 hI r2 (by decide)
      have w1 := J1.2.2.1 1
      have hb := hI.2.2.1
      refine ir_l (pc' := 413) rfl rfl rfl rfl rfl rfl ?_
      refine ir_l (pc' := 414) rfl rfl rfl rfl rfl rfl ?_
      refine ir_l (pc' := 415) rfl rfl rfl rfl rfl rfl ?_
      refine ir_k (pc' := 416) (v := (0, 1)) rfl rfl rfl (fun _ => rfl) ?_
      refine ir_add (pc' := 417) rfl rfl (by omega) (by omega) ?_
      refine ir_xld (pc' := 418) rfl rfl hL (by omega) (by omega) ?_
      have hR1 : wgf s1 5 ≠ 0 → RBd s1 At N9 nb9 b9 T9 f9 F9 lo9 hi9 ds9 od9 tb9 hd9 := fun q => RBd_rs (hR (by rw [← rsm_f (fr_rsm r2)]; exact q)) (fr_rsm r2)
      refine ir_cVI (pc' := 421) rfl rfl rfl rfl rfl (Nat.le_of_ble_eq_true rfl) oo_X10_common vg_582 (w_common L ys 84 s1 J1.2.1 (ys (i + 1).toNat).toInt (i32_r _) _ (Vr_common J1.2.2.2.1 hR1)) (fun v2 s2 hr => ?_)
      obtain ⟨q1, zr2, q2, q3, q5, R2, V2⟩ := hr
      have ev : v = v2 := Ve_common n4 hB hR (fr_rsm r2) n2 n3 hI.2.2.2.2.1 V1 V2
      have q4 := rfq_clf q5
      refine ir_c_eq (pt := 536) (pc' := 424) rfl rfl rfl (fun _ => ?_) (fun q => absurd ev q)
      exact nxt s2 hi4 ⟨⟨⟨LI_ref (n := wgf s 1) J1.1 J1.2.2.2.2 J0 q1 q4 (q2.trans w1) hb q3, clf_KP q4 K1⟩, agr_o hI hG (fr_rsm r2) J0 T1 q5⟩, RB_o n1 n2 n3 n4 hB (fr_rsm r2) T1 S1 q5 R2⟩
    · refine ir_tab (pc' := 426) 12 rfl (show z = 0 + ((12 : Nat) : Int) by omega) (by decide) rfl rfl ?_
      refine ir_l (pc' := 427) rfl rfl rfl rfl rfl rfl ?_
      refine ir_l (pc' := 428) rfl rfl rfl rfl rfl rfl ?_
      refine ir_l (pc' := 429) rfl rfl rfl rfl rfl rfl ?_
      refine ir_k (pc' := 430) (v := (0, 1)) rfl rfl rfl (fun _ => rfl) ?_
      refine ir_add (pc' := 431) rfl rfl (by omega) (by omega) ?_
      refine ir_xld (pc' := 432) rfl rfl hL (by omega) (by omega) ?_
      refine ir_l (pc' := 433) rfl rfl rfl rfl rfl rfl ?_
      refine ir_l (pc' := 434) rfl rfl rfl rfl rfl rfl ?_
      refine ir_k (pc' := 435) (v := (0, 2)) rfl rfl rfl (fun _ => rfl) ?_
      refine ir_add (pc' := 436) rfl rfl (by omega) (by omega) ?_
      refine ir_xld (pc' := 437) rfl rfl hL (by omega) (by omega) ?_
      refine ir_cVI (pc' := 440) rfl rfl rfl rfl rfl (Nat.le_of_ble_eq_true rfl) oo_X9_simple (gG_at tsk_0) (icK (sf_simple9 L ys 78 s hI.1 (ys (i + 1).toNat).toInt (i32_r _).1 (i32_r _).2 (ys (i + 2).toNat).toInt (i32_r _).1 (i32_r _).2) (Vc_simple L ys 86 s hI2.2 hB (ys (i + 1).toNat).toInt (i32_r _) (ys (i + 2).toNat).toInt (i32_r _))) (fun v s1 hr => ?_)
      obtain ⟨⟨r1, r2, zr⟩, ⟨K1, T1⟩, S1, V1⟩ := hr
      have J1 : LJ s s1 := LJ_fr hI r1 r2 (by decide) (by decide)
      have J0 := LJ_0 hI r2 (by decide)
      have w1 := J1.2.2.1 1
      have hb := hI.2.2.1
      refine ir_l (pc' := 441) rfl rfl rfl rfl rfl rfl ?_
      refine ir_l (pc' := 442) rfl rfl rfl rfl rfl rfl ?_
      refine ir_l (pc' := 443) rfl rfl rfl rfl rfl rfl ?_
      refine ir_k (pc' := 444) (v := (0, 1)) rfl rfl rfl (fun _ => rfl) ?_
      refine ir_add (pc' := 445) rfl rfl (by omega) (by omega) ?_
      refine ir_xld (pc' := 446) rfl rfl hL (by omega) (by omega) ?_
      refine ir_l (pc' := 447) rfl rfl rfl rfl rfl rfl ?_
      refine ir_l (pc' := 448) rfl rfl rfl rfl rfl rfl ?_
      refine ir_k (pc' := 449) (v := (0, 2)) rfl rfl rfl (fun _ => rfl) ?_
      refine ir_add (pc' := 450) rfl rfl (by omega) (by omega) ?_
      refine ir_xld (pc' := 451) rfl rfl hL (by omega) (by omega) ?_
      have hR1 : wgf s1 5 ≠ 0 → RBd s1 At N9 nb9 b9 T9 f9 F9 lo9 hi9 ds9 od9 tb9 hd9 := fun q => RBd_rs (hR (by rw [← rsm_f (fr_rsm r2)]; exact q)) (fr_rsm r2)
      refine ir_cVI (pc' := 454) rfl rfl rfl rfl rfl (Nat.le_of_ble_eq_true rfl) oo_X10_simple vg_582 (w_simple L ys 77 s1 J1.2.1 (ys (i + 1).toNat).toInt (i32_r _) (ys (i + 2).toNat).toInt (i32_r _) _ (Vr_simple J1.2.2.2.1 hR1)) (fun v2 s2 hr => ?_)
      obtain ⟨q1, zr2, q2, q3, q5, R2, V2⟩ := hr
      have ev : v = v2 := Ve_simple n4 hB hR (fr_rsm r2) n2 n3 hI.2.2.2.2.1 V1 V2
      have q4 := rfq_clf q5
      refine ir_lcmp (pc' := 455) rfl rfl zr.1 zr.2 zr2.1 zr2.2 (fun z9 hz9 => ?_)
      refine ir_z_eq (pt := 536) (pc' := 458) rfl rfl rfl (fun _ => ?_) (fun q => absurd (show z9 = 0 by omega) q)
      exact nxt s2 hi4 ⟨⟨⟨LI_ref (n := wgf s 1) J1.1 J1.2.2.2.2 J0 q1 q4 (q2.trans w1) hb q3, clf_KP q4 K1⟩, agr_o hI hG (fr_rsm r2) J0 T1 q5⟩, RB_o n1 n2 n3 n4 hB (fr_rsm r2) T1 S1 q5 R2⟩
    · refine ir_tab (pc' := 460) 13 rfl (show z = 0 + ((13 : Nat) : Int) by omega) (by decide) rfl rfl ?_
      refine ir_l (pc' := 461) rfl rfl rfl rfl rfl rfl ?_
      refine ir_l (pc' := 462) rfl rfl rfl rfl rfl rfl ?_
      refine ir_l (pc' := 463) rfl rfl rfl rfl rfl rfl ?_
      refine ir_k (pc' := 464) (v := (0, 1)) rfl rfl rfl (fun _ => rfl) ?_
      refine ir_add (pc' := 465) rfl rfl (by omega) (by omega) ?_
      refine ir_xld (pc' := 466) rfl rfl hL (by omega) (by omega) ?_
      refine ir_l (pc' := 467) rfl rfl rfl rfl rfl rfl ?_
      refine ir_l (pc' := 468) rfl rfl rfl rfl rfl rfl ?_
      refine ir_k (pc' := 469) (v := (0, 2)) rfl rfl rfl (fun _ => rfl) ?_
      refine ir_add (pc' := 470) rfl rfl (by omega) (by omega) ?_
      refine ir_xld (pc' := 471) rfl rfl hL (by omega) (by omega) ?_
      refine ir_cVI (pc' := 474) rfl rfl rfl rfl rfl (Nat.le_of_ble_eq_true rfl) oo_X9_cellOf (gG_at tsk_0) (icK (sf_cellOf9 L ys 79 s hI.1 (ys (i + 1).toNat).toInt (i32_r _).1 (i32_r _).2 (ys (i + 2).toNat).toInt (i32_r _).1 (i32_r _).2) (Vc_cellOf L ys 86 s hI2.2 hB (ys (i + 1).toNat).toInt (i32_r _) (ys (i + 2).toNat).toInt (i32_r _))) (fun v s1 hr => ?_)
      obtain ⟨⟨r1, r2, zr⟩, ⟨K1, T1⟩, S1, V1⟩ := hr
      have J1 : LJ s s1 := LJ_fr hI r1 r2 (by decide) (by decide)
      have J0 := LJ_0 hI r2 (by decide)
      have w1 := J1.2.2.1 1
      have hb := hI.2.2.1
      refine ir_l (pc' := 475) rfl rfl rfl rfl rfl rfl ?_
      refine ir_l (pc' := 476) rfl rfl rfl rfl rfl rfl ?_
      refine ir_l (pc' := 477) rfl rfl rfl rfl rfl rfl ?_
      refine ir_k (pc' := 478) (v := (0, 1)) rfl rfl rfl (fun _ => rfl) ?_
      refine ir_add (pc' := 479) rfl rfl (by omega) (by omega) ?_
      refine ir_xld (pc' := 480) rfl rfl hL (by omega) (by omega) ?_
      refine ir_l (pc' := 481) rfl rfl rfl rfl rfl rfl ?_
      refine ir_l (pc' := 482) rfl rfl rfl rfl rfl rfl ?_
      refine ir_k (pc' := 483) (v := (0, 2)) rfl rfl rfl (fun _ => rfl) ?_
      refine ir_add (pc' := 484) rfl rfl (by omega) (by omega) ?_
      refine ir_xld (pc' := 485) rfl rfl hL (by omega) (by omega) ?_
      have hR1 : wgf s1 5 ≠ 0 → RBd s1 At N9 nb9 b9 T9 f9 F9 lo9 hi9 ds9 od9 tb9 hd9 := fun q => RBd_rs (hR (by rw [← rsm_f (fr_rsm r2)]; exact q)) (fr_rsm r2)
      refine ir_cVI (pc' := 488) rfl rfl rfl rfl rfl (Nat.le_of_ble_eq_true rfl) oo_X10_cellOf vg_582 (w_cellOf L ys 78 s1 J1.2.1 (ys (i + 1).toNat).toInt (i32_r _) (ys (i + 2).toNat).toInt (i32_r _) _ (Vr_cellOf J1.2.2.2.1 hR1)) (fun v2 s2 hr => ?_)
      obtain ⟨q1, zr2, q2, q3, q5, R2, V2⟩ := hr
      have ev : v = v2 := Ve_cellOf n4 hB hR (fr_rsm r2) n2 n3 hI.2.2.2.2.1 V1 V2
      have q4 := rfq_clf q5
      refine ir_c_eq (pt := 536) (pc' := 491) rfl rfl rfl (fun _ => ?_) (fun q => absurd ev q)
      exact nxt s2 hi4 ⟨⟨⟨LI_ref (n := wgf s 1) J1.1 J1.2.2.2.2 J0 q1 q4 (q2.trans w1) hb q3, clf_KP q4 K1⟩, agr_o hI hG (fr_rsm r2) J0 T1 q5⟩, RB_o n1 n2 n3 n4 hB (fr_rsm r2) T1 S1 q5 R2⟩
    · refine ir_tab (pc' := 493) 14 rfl (show z = 0 + ((14 : Nat) : Int) by omega) (by decide) rfl rfl ?_
      refine ir_l (pc' := 494) rfl rfl rfl rfl rfl rfl ?_
      refine ir_l (pc' := 495) rfl rfl rfl rfl rfl rfl ?_
      refine ir_l (pc' := 496) rfl rfl rfl rfl rfl rfl ?_
      refine ir_k (pc' := 497) (v := (0, 1)) rfl rfl rfl (fun _ => rfl) ?_
      refine ir_add (pc' := 498) rfl rfl (by omega) (by omega) ?_
      refine ir_xld (pc' := 499) rfl rfl hL (by omega) (by omega) ?_
      refine ir_l (pc' := 500) rfl rfl rfl rfl rfl rfl ?_
      refine ir_l (pc' := 501) rfl rfl rfl rfl rfl rfl ?_
      refine ir_k (pc' := 502) (v := (0, 2)) rfl rfl rfl (fun _ => rfl) ?_
      refine ir_add (pc' := 503) rfl rfl (by omega) (by omega) ?_
      refine ir_xld (pc' := 504) rfl rfl hL (by omega) (by omega) ?_
      refine ir_l (pc' := 505) rfl rfl rfl rfl rfl rfl ?_
      refine ir_l (pc' := 506) rfl rfl rfl rfl rfl rfl ?_
      refine ir_k (pc' := 507) (v := (0, 3)) rfl rfl rfl (fun _ => rfl) ?_
      refine ir_add (pc' := 508) rfl rfl (by omega) (by omega) ?_
      refine ir_xld (pc' := 509) rfl rfl hL (by omega) (by omega) ?_
      refine ir_cVI (pc' := 512) rfl rfl rfl rfl rfl (Nat.le_of_ble_eq_true rfl) oo_X9_signAt (gG_at tsk_0) (icK (sf_signAt9 L ys 81 s hI.1 (ys (i + 1).toNat).toInt (i32_r _).1 (i32_r _).2 (ys (i + 2).toNat).toInt (i32_r _).1 (i32_r _).2 (ys (i + 3).toNat).toInt (i32_r _).1 (i32_r _).2) (Vc_signAt L ys 86 s hI2.2 hB (ys (i + 1).toNat).toInt (i32_r _) (ys (i + 2).toNat).toInt (i32_r _) (ys (i + 3).toNat).toInt (i32_r _))) (fun v s1 hr => ?_)
      obtain ⟨⟨r1, r2, zr⟩, ⟨K1, T1⟩, S1, V1⟩ := hr
      have J1 : LJ s s1 := LJ_fr hI r1 r2 (by decide) (by decide)
      have J0 := LJ_0 hI r2 (by decide)
      have w1 := J1.2.2.1 1
      have hb := hI.2.2.1
      refine ir_l (pc' := 513) rfl rfl rfl rfl rfl rfl ?_
      refine ir_l (pc' := 514) rfl rfl rfl rfl rfl rfl ?_
      refine ir_l (pc' := 515) rfl rfl rfl rfl rfl rfl ?_
      refine ir_k (pc' := 516) (v := (0, 1)) rfl rfl rfl (fun _ => rfl) ?_
      refine ir_add (pc' := 517) rfl rfl (by omega) (by omega) ?_
      refine ir_xld (pc' := 518) rfl rfl hL (by omega) (by omega) ?_
      refine ir_l (pc' := 519) rfl rfl rfl rfl rfl rfl ?_
      refine ir_l (pc' := 520) rfl rfl rfl rfl rfl rfl ?_
      refine ir_k (pc' := 521) (v := (0, 2)) rfl rfl rfl (fun _ => rfl) ?_
      refine ir_add (pc' := 522) rfl rfl (by omega) (by omega) ?_
      refine ir_xld (pc' := 523) rfl rfl hL (by omega) (by omega) ?_
      refine ir_l (pc' := 524) rfl rfl rfl rfl rfl rfl ?_
      refine ir_l (pc' := 525) rfl rfl rfl rfl rfl rfl ?_
      refine ir_k (pc' := 526) (v := (0, 3)) rfl rfl rfl (fun _ => rfl) ?_
      refine ir_add (pc' := 527) rfl rfl (by omega) (by omega) ?_
      refine ir_xld (pc' := 528) rfl rfl hL (by omega) (by omega) ?_
      have hR1 : wgf s1 5 ≠ 0 → RBd s1 At N9 nb9 b9 T9 f9 F9 lo9 hi9 ds9 od9 tb9 hd9 := fun q => RBd_rs (hR (by rw [← rsm_f (fr_rsm r2)]; exact q)) (fr_rsm r2)
      refine ir_cVI (pc' := 531) rfl rfl rfl rfl rfl (Nat.le_of_ble_eq_true rfl) oo_X10_signAt vg_582 (w_signAt L ys 81 s1 J1.2.1 (ys (i + 1).toNat).toInt (i32_r _) (ys (i + 2).toNat).toInt (i32_r _) (ys (i + 3).toNat).toInt (i32_r _) _ (Vr_signAt J1.2.2.2.1 hR1)) (fun v2 s2 hr => ?_)
      obtain ⟨q1, zr2, q2, q3, q5, R2, V2⟩ := hr
      have ev : v = v2 := Ve_signAt n4 hB hR (fr_rsm r2) n2 n3 hI.2.2.2.2.1 V1 V2
      have q4 := rfq_clf q5
      refine ir_c_eq (pt := 536) (pc' := 534) rfl rfl rfl (fun _ => ?_) (fun q => absurd ev q)
      exact nxt s2 hi4 ⟨⟨⟨LI_ref (n := wgf s 1) J1.1 J1.2.2.2.2 J0 q1 q4 (q2.trans w1) hb q3, clf_KP q4 K1⟩, agr_o hI hG (fr_rsm r2) J0 T1 q5⟩, RB_o n1 n2 n3 n4 hB (fr_rsm r2) T1 S1 q5 R2⟩
    · refine ir_tabD (pc' := 536) rfl hz rfl ?_
      exact nxt s hi4 ⟨⟨hI2, hG⟩, hRB⟩
