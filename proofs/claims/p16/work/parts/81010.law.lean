/-! THE LAW'S BODY, with the text, by program -/
set_option maxRecDepth 16384 in
theorem law_18r (L : Nat) (ys : Nat → Int32) (hL : L ≤ 2048) : ∀ n : Nat, ∀ (i : Int) (s : im_S), 0 ≤ i → i ≤ 2052 → LI4 s → (2060 - i ≤ (n : Int)) → ir gG rm_P L ys 86 rm_p_L_law (18, [(0, (4, 0)), (1, (2, ((0 : Nat) : Int))), (2, (2, ((582 : Nat) : Int))), (3, (0, i))], [], s) (fun r : im_Re => r.1 = some (0, 1)) := by
  intro n
  induction n with
  | zero => intro i s i0 i1 _ hn; exfalso; omega
  | succ n ih =>
    intro i s i0 i1 hI4 hn
    obtain ⟨⟨hI2, hG⟩, hA⟩ := hI4
    have hI := hI2.1
    have nxt : ∀ s' : im_S, i + 4 ≤ L → LI4 s' → ir gG rm_P L ys 86 rm_p_L_law (533, [(0, (4, 0)), (1, (2, ((0 : Nat) : Int))), (2, (2, ((582 : Nat) : Int))), (3, (0, i))], [], s') (fun r : im_Re => r.1 = some (0, 1)) := fun s' hi hs => by
      refine ir_inc (pc' := 536) rfl rfl rfl rfl rfl (by omega) (by omega) ?_
      refine ir_goto (pc' := 18) rfl rfl ?_
      refine ir_w [(0, (4, 0)), (1, (2, ((0 : Nat) : Int))), (2, (2, ((582 : Nat) : Int))), (3, (0, i + 4))] ⟨rfl, rfl, rfl, rfl, trivial⟩ ?_
      exact ih (i + 4) s' (by omega) (by omega) hs (by omega)
    refine ir_l (pc' := 19) rfl rfl rfl rfl rfl rfl ?_
    refine ir_l (pc' := 20) rfl rfl rfl rfl rfl rfl ?_
    refine ir_xlen (pc' := 21) rfl rfl hL ?_
    refine ir_k (pc' := 22) (v := (0, 4)) rfl rfl rfl (fun _ => rfl) ?_
    refine ir_sub (pc' := 23) rfl rfl (by omega) (by omega) ?_
    refine ir_c_gt (pt := 539) (pc' := 26) rfl rfl rfl (fun c => ?_) (fun c => ?_)
    · refine ir_k (pc' := 540) (v := (0, 1)) rfl rfl rfl (fun _ => rfl) ?_
      exact ir_zret rfl rfl (Or.inr rfl) rfl
    have hi4 : i + 4 ≤ L := by omega
    refine ir_l (pc' := 27) rfl rfl rfl rfl rfl rfl ?_
    refine ir_l (pc' := 28) rfl rfl rfl rfl rfl rfl ?_
    refine ir_xld (pc' := 29) rfl rfl hL i0 (by omega) ?_
    refine ir_k (pc' := 31) (v := (0, 15)) rfl rfl rfl (fun _ => rfl) ?_
    refine ir_andm (pc' := 32) rfl rfl (by decide) (by decide) (fun z z0 z15 => ?_)
    rcases (show z = 0 ∨ z = 1 ∨ z = 2 ∨ z = 3 ∨ z = 4 ∨ z = 5 ∨ z = 6 ∨ z = 7 ∨ z = 8 ∨ z = 9 ∨ z = 10 ∨ z = 11 ∨ z = 12 ∨ z = 13 ∨ z = 14 ∨ (z < 0 ∨ 14 < z) by omega) with hz | hz | hz | hz | hz | hz | hz | hz | hz | hz | hz | hz | hz | hz | hz | hz
    · refine ir_tab (pc' := 108) 0 rfl (show z = 0 + ((0 : Nat) : Int) by omega) (by decide) rfl rfl ?_
      refine ir_l (pc' := 109) rfl rfl rfl rfl rfl rfl ?_
      refine ir_l (pc' := 110) rfl rfl rfl rfl rfl rfl ?_
      refine ir_l (pc' := 111) rfl rfl rfl rfl rfl rfl ?_
      refine ir_k (pc' := 112) (v := (0, 1)) rfl rfl rfl (fun _ => rfl) ?_
      refine ir_add (pc' := 113) rfl rfl (by omega) (by omega) ?_
      refine ir_xld (pc' := 114) rfl rfl hL (by omega) (by omega) ?_
      have hb := hI.2.2.1
      have e00 := hI.2.2.2.2.1
      refine ir_cVI (pc' := 117) rfl rfl rfl rfl rfl (Nat.le_of_ble_eq_true rfl) oo_X9_type (gG_at tsk_0) (icK (sf_type9 L ys 84 s hI.1 (ys (i + 1).toNat).toInt (i32_r _).1 (i32_r _).2) (U_type L ys 86 s hI2.2 (by omega) (by omega) (ys (i + 1).toNat).toInt (i32_r _))) (fun v s1 hr => ?_)
      obtain ⟨⟨r1, r2, _, _, r3⟩, ⟨K1, T1⟩, k1⟩ := hr
      have J1 : LJ s s1 := LJ_fr hI r1 r2 (by decide) (by decide)
      have w1 := J1.2.2.1 1
      refine ir_x (pc' := 118) rfl rfl rfl (fun _ => rfl) ?_
      refine ir_l (pc' := 119) rfl rfl rfl rfl rfl rfl ?_
      refine ir_l (pc' := 120) rfl rfl rfl rfl rfl rfl ?_
      refine ir_l (pc' := 121) rfl rfl rfl rfl rfl rfl ?_
      refine ir_k (pc' := 122) (v := (0, 1)) rfl rfl rfl (fun _ => rfl) ?_
      refine ir_add (pc' := 123) rfl rfl (by omega) (by omega) ?_
      refine ir_xld (pc' := 124) rfl rfl hL (by omega) (by omega) ?_
      refine ir_cVI (pc' := 127) rfl rfl rfl rfl rfl (Nat.le_of_ble_eq_true rfl) oo_X10_type vg_582 (icK (w_type L ys 84 s1 J1.2.1 (ys (i + 1).toNat).toInt (i32_r _) (fun z s' => fw [1] [583] s1 s' ∧ rd s' ∧ clf s1 s' ∧ ((z = -1 ∧ wgf s' 1 = wgf s1 1 ∧ ((ys (i + 1).toNat).toInt < 32 ∨ 126 < (ys (i + 1).toNat).toInt ∨ wgf s1 1 = 400)) ∨ (z = wgf s1 1 + 1 ∧ wgf s' 1 = z ∧ 32 ≤ (ys (i + 1).toNat).toInt ∧ (ys (i + 1).toNat).toInt ≤ 126 ∧ wgf s1 1 < 400))) (type_q (by omega) (fun z s' a b => ⟨a, fw_rd a J1.2.2.2.1, fw_clf a (fun c hc => by simp at hc; omega), b⟩))) (TR_type L ys 86 s1 J1.2.1 K1.1 (show 0 ≤ wgf s1 1 by omega) (show wgf s1 1 ≤ 400 by omega) (ys (i + 1).toNat).toInt (i32_r _))) (fun v2 s2 hr => ?_)
      obtain ⟨⟨q1, _, qf, q2, q3, q4⟩, T2⟩ := hr
      have ev : v = v2 := by omega
      refine ir_x (pc' := 128) rfl rfl rfl (fun _ => rfl) ?_
      refine ir_goto (pc' := 533) rfl rfl ?_
      exact nxt s2 hi4 ⟨⟨⟨LI_ref (n := wgf s2 1) J1.1 J1.2.2.2.2 (by omega) q1 q3 rfl (by omega) q2, clf_KP q3 K1⟩, agr_w (P := tyq (ys (i + 1).toNat).toInt) tyq_agr hI hG (fr_rsm r2) T1 T2 q3⟩, RA_w hA (fr_rsm r2) k1 qf⟩
    · refine ir_tab (pc' := 131) 1 rfl (show z = 0 + ((1 : Nat) : Int) by omega) (by decide) rfl rfl ?_
      refine ir_l (pc' := 132) rfl rfl rfl rfl rfl rfl ?_
      refine ir_l (pc' := 133) rfl rfl rfl rfl rfl rfl ?_
      refine ir_l (pc' := 134) rfl rfl rfl rfl rfl rfl ?_
      refine ir_k (pc' := 135) (v := (0, 1)) rfl rfl rfl (fun _ => rfl) ?_
      refine ir_add (pc' := 136) rfl rfl (by omega) (by omega) ?_
      refine ir_xld (pc' := 137) rfl rfl hL (by omega) (by omega) ?_
      have hb := hI.2.2.1
      have e00 := hI.2.2.2.2.1
      refine ir_cVI (pc' := 140) rfl rfl rfl rfl rfl (Nat.le_of_ble_eq_true rfl) oo_X9_four (gG_at tsk_0) (icK (sv_four9 L ys 84 s hI.1 (ys (i + 1).toNat).toInt (i32_r _).1 (i32_r _).2) (U_four L ys 86 s hI2.2 (by omega) (by omega) (ys (i + 1).toNat).toInt (i32_r _))) (fun v s1 hr => ?_)
      obtain ⟨⟨r1, r2, r3⟩, ⟨K1, T1⟩, k1⟩ := hr
      have J1 : LJ s s1 := LJ_fr hI r1 r2 (by decide) (by decide)
      have w1 := J1.2.2.1 1
      refine ir_x (pc' := 141) rfl rfl rfl (fun _ => rfl) ?_
      refine ir_l (pc' := 142) rfl rfl rfl rfl rfl rfl ?_
      refine ir_l (pc' := 143) rfl rfl rfl rfl rfl rfl ?_
      refine ir_l (pc' := 144) rfl rfl rfl rfl rfl rfl ?_
      refine ir_k (pc' := 145) (v := (0, 1)) rfl rfl rfl (fun _ => rfl) ?_
      refine ir_add (pc' := 146) rfl rfl (by omega) (by omega) ?_
      refine ir_xld (pc' := 147) rfl rfl hL (by omega) (by omega) ?_
      refine ir_cVI (pc' := 150) rfl rfl rfl rfl rfl (Nat.le_of_ble_eq_true rfl) oo_X10_four vg_582 (icK (w_four L ys 84 s1 J1.2.1 (ys (i + 1).toNat).toInt (i32_r _) (by omega)) (TR_four L ys 86 s1 J1.2.1 K1.1 (show 0 ≤ wgf s1 1 by omega) (show wgf s1 1 ≤ 400 by omega) (ys (i + 1).toNat).toInt (i32_r _))) (fun v2 s2 hr => ?_)
      obtain ⟨⟨q1, _, q2, q3⟩, T2⟩ := hr
      rw [e00] at r3
      rw [w1] at q3
      have ev := fsp_one r3 q3
      have bd := fsp_b hb q3
      obtain ⟨ev3, ev⟩ := ev
      have q2c := fw_clf q2 (fun c hc => by simp at hc; omega)
      refine ir_x (pc' := 151) rfl rfl rfl (fun _ => rfl) ?_
      refine ir_goto (pc' := 533) rfl rfl ?_
      exact nxt s2 hi4 ⟨⟨⟨LI_ref (n := wgf s2 1) J1.1 J1.2.2.2.2 ev3 q1 q2c rfl bd (fw_rd q2 J1.2.2.2.1), clf_KP q2c K1⟩, agr_w (P := fsq (ys (i + 1).toNat).toInt) fsq_agr hI hG (fr_rsm r2) T1 T2 q2c⟩, RA_w hA (fr_rsm r2) k1 q2⟩
    · refine ir_tab (pc' := 154) 2 rfl (show z = 0 + ((2 : Nat) : Int) by omega) (by decide) rfl rfl ?_
      refine ir_l (pc' := 155) rfl rfl rfl rfl rfl rfl ?_
      refine ir_cVI (pc' := 158) rfl rfl rfl rfl rfl (Nat.le_of_ble_eq_true rfl) oo_X9_load (gG_at tsk_0) (load_KV L ys s hI hI2.2 hG) (fun v s1 hr => ?_)
      obtain ⟨⟨⟨r1, r2, r3, r4⟩, K1⟩, R, hR, zR, _, _, kR, tR9⟩ := hr
      have J1 : LJ s s1 := ⟨r1, rsm_vI r2 hI.2.1, fun f => rsm_f r2 f, rsm_rd r2 hI.2.2.2.1, r4⟩
      have w1 := J1.2.2.1 1
      have hb := hI.2.2.1
      refine ir_x (pc' := 159) rfl rfl rfl (fun _ => rfl) ?_
      refine ir_l (pc' := 160) rfl rfl rfl rfl rfl rfl ?_
      refine ir_cVI (pc' := 163) rfl rfl rfl rfl rfl (Nat.le_of_ble_eq_true rfl) oo_X10_load vg_582 (w_loadw L ys 74 s1 J1.2.1 (fun v s' => wgf s' 1 = 0 ∧ rd s' ∧ clf s1 s' ∧ v = fou R ∧ wgf s' 5 = kno R ∧ ∀ j A, R = .inr (j, A) → rat s' A) (load_qv K1.1 (by omega) (rtx_s hI hG r2) hR (fun v s' a b c d _ e g => ⟨a, b, c, d, e, g⟩))) (fun v2 s2 hr => ?_)
      obtain ⟨q1, _, q2, q3, q4, q5, q6, q7⟩ := hr
      have ev : v = v2 := zR.trans q5.symm
      refine ir_x (pc' := 164) rfl rfl rfl (fun _ => rfl) ?_
      refine ir_goto (pc' := 533) rfl rfl ?_
      exact nxt s2 hi4 ⟨⟨⟨LI_ref (n := 0) J1.1 J1.2.2.2.2 r3 q1 q4 q2 (by decide) q3, clf_KP q4 K1⟩, agr_0 (((q4 0 0 (by decide)).1).trans r3)⟩, RA_l kR tR9 q4 q6 q7⟩
    · refine ir_tab (pc' := 167) 3 rfl (show z = 0 + ((3 : Nat) : Int) by omega) (by decide) rfl rfl ?_
      refine ir_l (pc' := 168) rfl rfl rfl rfl rfl rfl ?_
      refine ir_l (pc' := 169) rfl rfl rfl rfl rfl rfl ?_
      refine ir_l (pc' := 170) rfl rfl rfl rfl rfl rfl ?_
      refine ir_k (pc' := 171) (v := (0, 1)) rfl rfl rfl (fun _ => rfl) ?_
      refine ir_add (pc' := 172) rfl rfl (by omega) (by omega) ?_
      refine ir_xld (pc' := 173) rfl rfl hL (by omega) (by omega) ?_
      refine ir_cVI (pc' := 176) rfl rfl rfl rfl rfl (Nat.le_of_ble_eq_true rfl) oo_X9_count (gG_at tsk_0) (icK (sf_count9 L ys 85 s hI.1 (ys (i + 1).toNat).toInt (i32_r _).1 (i32_r _).2) (T_count L ys 86 s hI2.2 (ys (i + 1).toNat).toInt (i32_r _))) (fun v s1 hr => ?_)
      obtain ⟨⟨r1, r2, _⟩, K1, T1⟩ := hr
      have J1 : LJ s s1 := LJ_fr hI r1 r2 (by decide) (by decide)
      have J0 := LJ_0 hI r2 (by decide)
      have w1 := J1.2.2.1 1
      have hb := hI.2.2.1
      refine ir_x (pc' := 177) rfl rfl rfl (fun _ => rfl) ?_
      refine ir_l (pc' := 178) rfl rfl rfl rfl rfl rfl ?_
      refine ir_l (pc' := 179) rfl rfl rfl rfl rfl rfl ?_
      refine ir_l (pc' := 180) rfl rfl rfl rfl rfl rfl ?_
      refine ir_k (pc' := 181) (v := (0, 1)) rfl rfl rfl (fun _ => rfl) ?_
      refine ir_add (pc' := 182) rfl rfl (by omega) (by omega) ?_
      refine ir_xld (pc' := 183) rfl rfl hL (by omega) (by omega) ?_
      refine ir_cVI (pc' := 186) rfl rfl rfl rfl rfl (Nat.le_of_ble_eq_true rfl) oo_X10_count vg_582 (w_count L ys 83 s1 J1.2.1 (ys (i + 1).toNat).toInt (i32_r _) (fun _ s' => wgf s' 1 = wgf s1 1 ∧ rd s' ∧ rfq s1 s') (count_q J1.2.2.2.1 (fun v => ⟨rfl, J1.2.2.2.1, rfq_rfl⟩))) (fun v2 s2 hr => ?_)
      obtain ⟨q1, _, q2, q3, q5⟩ := hr
      have q4 := rfq_clf q5
      refine ir_x (pc' := 187) rfl rfl rfl (fun _ => rfl) ?_
      refine ir_goto (pc' := 533) rfl rfl ?_
      exact nxt s2 hi4 ⟨⟨⟨LI_ref (n := wgf s 1) J1.1 J1.2.2.2.2 J0 q1 q4 (q2.trans w1) hb q3, clf_KP q4 K1⟩, agr_o hI hG (fr_rsm r2) J0 T1 q5⟩, RA_o hA (fr_rsm r2) T1 q5⟩
    · refine ir_tab (pc' := 190) 4 rfl (show z = 0 + ((4 : Nat) : Int) by omega) (by decide) rfl rfl ?_
      refine ir_l (pc' := 191) rfl rfl rfl rfl rfl rfl ?_
      refine ir_l (pc' := 192) rfl rfl rfl rfl rfl rfl ?_
      refine ir_l (pc' := 193) rfl rfl rfl rfl rfl rfl ?_
      refine ir_k (pc' := 194) (v := (0, 1)) rfl rfl rfl (fun _ => rfl) ?_
      refine ir_add (pc' := 195) rfl rfl (by omega) (by omega) ?_
      refine ir_xld (pc' := 196) rfl rfl hL (by omega) (by omega) ?_
      refine ir_l (pc' := 197) rfl rfl rfl rfl rfl rfl ?_
      refine ir_l (pc' := 198) rfl rfl rfl rfl rfl rfl ?_
      refine ir_k (pc' := 199) (v := (0, 2)) rfl rfl rfl (fun _ => rfl) ?_
      refine ir_add (pc' := 200) rfl rfl (by omega) (by omega) ?_
      refine ir_xld (pc' := 201) rfl rfl hL (by omega) (by omega) ?_
      refine ir_cVI (pc' := 204) rfl rfl rfl rfl rfl (Nat.le_of_ble_eq_true rfl) oo_X9_atom (gG_at tsk_0) (icK (sf_atom9 L ys 82 s hI.1 (ys (i + 1).toNat).toInt (i32_r _).1 (i32_r _).2 (ys (i + 2).toNat).toInt (i32_r _).1 (i32_r _).2) (T_atom L ys 86 s hI2.2 (ys (i + 1).toNat).toInt (i32_r _) (ys (i + 2).toNat).toInt (i32_r _))) (fun v s1 hr => ?_)
      obtain ⟨⟨r1, r2, _⟩, K1, T1⟩ := hr
      have J1 : LJ s s1 := LJ_fr hI r1 r2 (by decide) (by decide)
      have J0 := LJ_0 hI r2 (by decide)
      have w1 := J1.2.2.1 1
      have hb := hI.2.2.1
      refine ir_x (pc' := 205) rfl rfl rfl (fun _ => rfl) ?_
      refine ir_l (pc' := 206) rfl rfl rfl rfl rfl rfl ?_
      refine ir_l (pc' := 207) rfl rfl rfl rfl rfl rfl ?_
      refine ir_l (pc' := 208) rfl rfl rfl rfl rfl rfl ?_
      refine ir_k (pc' := 209) (v := (0, 1)) rfl rfl rfl (fun _ => rfl) ?_
      refine ir_add (pc' := 210) rfl rfl (by omega) (by omega) ?_
      refine ir_xld (pc' := 211) rfl rfl hL (by omega) (by omega) ?_
      refine ir_l (pc' := 212) rfl rfl rfl rfl rfl rfl ?_
      refine ir_l (pc' := 213) rfl rfl rfl rfl rfl rfl ?_
      refine ir_k (pc' := 214) (v := (0, 2)) rfl rfl rfl (fun _ => rfl) ?_
      refine ir_add (pc' := 215) rfl rfl (by omega) (by omega) ?_
      refine ir_xld (pc' := 216) rfl rfl hL (by omega) (by omega) ?_
      refine ir_cVI (pc' := 219) rfl rfl rfl rfl rfl (Nat.le_of_ble_eq_true rfl) oo_X10_atom vg_582 (w_atom L ys 84 s1 J1.2.1 (ys (i + 1).toNat).toInt (i32_r _) (ys (i + 2).toNat).toInt (i32_r _) (fun _ s' => wgf s' 1 = wgf s1 1 ∧ rd s' ∧ rfq s1 s') (atom_q J1.2.2.2.1 (fun v => ⟨rfl, J1.2.2.2.1, rfq_rfl⟩))) (fun v2 s2 hr => ?_)
      obtain ⟨q1, _, q2, q3, q5⟩ := hr
      have q4 := rfq_clf q5
      refine ir_x (pc' := 220) rfl rfl rfl (fun _ => rfl) ?_
      refine ir_goto (pc' := 533) rfl rfl ?_
      exact nxt s2 hi4 ⟨⟨⟨LI_ref (n := wgf s 1) J1.1 J1.2.2.2.2 J0 q1 q4 (q2.trans w1) hb q3, clf_KP q4 K1⟩, agr_o hI hG (fr_rsm r2) J0 T1 q5⟩, RA_o hA (fr_rsm r2) T1 q5⟩
    · refine ir_tab (pc' := 223) 5 rfl (show z = 0 + ((5 : Nat) : Int) by omega) (by decide) rfl rfl ?_
      refine ir_l (pc' := 224) rfl rfl rfl rfl rfl rfl ?_
      refine ir_l (pc' := 225) rfl rfl rfl rfl rfl rfl ?_
      refine ir_l (pc' := 226) rfl rfl rfl rfl rfl rfl ?_
      refine ir_k (pc' := 227) (v := (0, 1)) rfl rfl rfl (fun _ => rfl) ?_
      refine ir_add (pc' := 228) rfl rfl (by omega) (by omega) ?_
      refine ir_xld (pc' := 229) rfl rfl hL (by omega) (by omega) ?_
      refine ir_cVI (pc' := 232) rfl rfl rfl rfl rfl (Nat.le_of_ble_eq_true rfl) oo_X9_judge (gG_at tsk_0) (icK (sf_judge9 L ys 85 s hI.1 (ys (i + 1).toNat).toInt (i32_r _).1 (i32_r _).2) (T_judge L ys 86 s hI2.2 (ys (i + 1).toNat).toInt (i32_r _))) (fun v s1 hr => ?_)
      obtain ⟨⟨r1, r2, _⟩, K1, T1⟩ := hr
      have J1 : LJ s s1 := LJ_fr hI r1 r2 (by decide) (by decide)
      have J0 := LJ_0 hI r2 (by decide)
      have w1 := J1.2.2.1 1
      have hb := hI.2.2.1
      refine ir_x (pc' := 233) rfl rfl rfl (fun _ => rfl) ?_
      refine ir_l (pc' := 234) rfl rfl rfl rfl rfl rfl ?_
      refine ir_l (pc' := 235) rfl rfl rfl rfl rfl rfl ?_
      refine ir_l (pc' := 236) rfl rfl rfl rfl rfl rfl ?_
      refine ir_k (pc' := 237) (v := (0, 1)) rfl rfl rfl (fun _ => rfl) ?_
      refine ir_add (pc' := 238) rfl rfl (by omega) (by omega) ?_
      refine ir_xld (pc' := 239) rfl rfl hL (by omega) (by omega) ?_
      refine ir_cVI (pc' := 242) rfl rfl rfl rfl rfl (Nat.le_of_ble_eq_true rfl) oo_X10_judge vg_582 (w_judge L ys 83 s1 J1.2.1 (ys (i + 1).toNat).toInt (i32_r _) (fun _ s' => wgf s' 1 = wgf s1 1 ∧ rd s' ∧ rfq s1 s') (judge_q J1.2.2.2.1 (fun v => ⟨rfl, J1.2.2.2.1, rfq_rfl⟩))) (fun v2 s2 hr => ?_)
      obtain ⟨q1, _, q2, q3, q5⟩ := hr
      have q4 := rfq_clf q5
      refine ir_x (pc' := 243) rfl rfl rfl (fun _ => rfl) ?_
      refine ir_goto (pc' := 533) rfl rfl ?_
      exact nxt s2 hi4 ⟨⟨⟨LI_ref (n := wgf s 1) J1.1 J1.2.2.2.2 J0 q1 q4 (q2.trans w1) hb q3, clf_KP q4 K1⟩, agr_o hI hG (fr_rsm r2) J0 T1 q5⟩, RA_o hA (fr_rsm r2) T1 q5⟩
    · refine ir_tab (pc' := 246) 6 rfl (show z = 0 + ((6 : Nat) : Int) by omega) (by decide) rfl rfl ?_
      refine ir_l (pc' := 247) rfl rfl rfl rfl rfl rfl ?_
      refine ir_l (pc' := 248) rfl rfl rfl rfl rfl rfl ?_
      refine ir_l (pc' := 249) rfl rfl rfl rfl rfl rfl ?_
      refine ir_k (pc' := 250) (v := (0, 1)) rfl rfl rfl (fun _ => rfl) ?_
      refine ir_add (pc' := 251) rfl rfl (by omega) (by omega) ?_
      refine ir_xld (pc' := 252) rfl rfl hL (by omega) (by omega) ?_
      refine ir_cVI (pc' := 255) rfl rfl rfl rfl rfl (Nat.le_of_ble_eq_true rfl) oo_X9_holds (gG_at tsk_0) (icK (sf_holds9 L ys 84 s hI.1 (ys (i + 1).toNat).toInt (i32_r _).1 (i32_r _).2) (T_holds L ys 86 s hI2.2 (ys (i + 1).toNat).toInt (i32_r _))) (fun v s1 hr => ?_)
      obtain ⟨⟨r1, r2, _⟩, K1, T1⟩ := hr
      have J1 : LJ s s1 := LJ_fr hI r1 r2 (by decide) (by decide)
      have J0 := LJ_0 hI r2 (by decide)
      have w1 := J1.2.2.1 1
      have hb := hI.2.2.1
      refine ir_x (pc' := 256) rfl rfl rfl (fun _ => rfl) ?_
      refine ir_l (pc' := 257) rfl rfl rfl rfl rfl rfl ?_
      refine ir_l (pc' := 258) rfl rfl rfl rfl rfl rfl ?_
      refine ir_l (pc' := 259) rfl rfl rfl rfl rfl rfl ?_
      refine ir_k (pc' := 260) (v := (0, 1)) rfl rfl rfl (fun _ => rfl) ?_
      refine ir_add (pc' := 261) rfl rfl (by omega) (by omega) ?_
      refine ir_xld (pc' := 262) rfl rfl hL (by omega) (by omega) ?_
      refine ir_cVI (pc' := 265) rfl rfl rfl rfl rfl (Nat.le_of_ble_eq_true rfl) oo_X10_holds vg_582 (w_holds L ys 83 s1 J1.2.1 (ys (i + 1).toNat).toInt (i32_r _) (fun _ s' => wgf s' 1 = wgf s1 1 ∧ rd s' ∧ rfq s1 s') (holds_q J1.2.2.2.1 (fun v => ⟨rfl, J1.2.2.2.1, rfq_rfl⟩))) (fun v2 s2 hr => ?_)
      obtain ⟨q1, _, q2, q3, q5⟩ := hr
      have q4 := rfq_clf q5
      refine ir_x (pc' := 266) rfl rfl rfl (fun _ => rfl) ?_
      refine ir_goto (pc' := 533) rfl rfl ?_
      exact nxt s2 hi4 ⟨⟨⟨LI_ref (n := wgf s 1) J1.1 J1.2.2.2.2 J0 q1 q4 (q2.trans w1) hb q3, clf_KP q4 K1⟩, agr_o hI hG (fr_rsm r2) J0 T1 q5⟩, RA_o hA (fr_rsm r2) T1 q5⟩
    · refine ir_tab (pc' := 269) 7 rfl (show z = 0 + ((7 : Nat) : Int) by omega) (by decide) rfl rfl ?_
      refine ir_l (pc' := 270) rfl rfl rfl rfl rfl rfl ?_
      refine ir_l (pc' := 271) rfl rfl rfl rfl rfl rfl ?_
      refine ir_l (pc' := 272) rfl rfl rfl rfl rfl rfl ?_
      refine ir_k (pc' := 273) (v := (0, 1)) rfl rfl rfl (fun _ => rfl) ?_
      refine ir_add (pc' := 274) rfl rfl (by omega) (by omega) ?_
      refine ir_xld (pc' := 275) rfl rfl hL (by omega) (by omega) ?_
      refine ir_l (pc' := 276) rfl rfl rfl rfl rfl rfl ?_
      refine ir_l (pc' := 277) rfl rfl rfl rfl rfl rfl ?_
      refine ir_k (pc' := 278) (v := (0, 2)) rfl rfl rfl (fun _ => rfl) ?_
      refine ir_add (pc' := 279) rfl rfl (by omega) (by omega) ?_
      refine ir_xld (pc' := 280) rfl rfl hL (by omega) (by omega) ?_
      refine ir_cVI (pc' := 283) rfl rfl rfl rfl rfl (Nat.le_of_ble_eq_true rfl) oo_X9_sign (gG_at tsk_0) (icK (sf_sign9 L ys 84 s hI.1 (ys (i + 1).toNat).toInt (i32_r _).1 (i32_r _).2 (ys (i + 2).toNat).toInt (i32_r _).1 (i32_r _).2) (T_sign L ys 86 s hI2.2 (ys (i + 1).toNat).toInt (i32_r _) (ys (i + 2).toNat).toInt (i32_r _))) (fun v s1 hr => ?_)
      obtain ⟨⟨r1, r2, _⟩, K1, T1⟩ := hr
      have J1 : LJ s s1 := LJ_fr hI r1 r2 (by decide) (by decide)
      have J0 := LJ_0 hI r2 (by decide)
      have w1 := J1.2.2.1 1
      have hb := hI.2.2.1
      refine ir_x (pc' := 284) rfl rfl rfl (fun _ => rfl) ?_
      refine ir_l (pc' := 285) rfl rfl rfl rfl rfl rfl ?_
      refine ir_l (pc' := 286) rfl rfl rfl rfl rfl rfl ?_
      refine ir_l (pc' := 287) rfl rfl rfl rfl rfl rfl ?_
      refine ir_k (pc' := 288) (v := (0, 1)) rfl rfl rfl (fun _ => rfl) ?_
      refine ir_add (pc' := 289) rfl rfl (by omega) (by omega) ?_
      refine ir_xld (pc' := 290) rfl rfl hL (by omega) (by omega) ?_
      refine ir_l (pc' := 291) rfl rfl rfl rfl rfl rfl ?_
      refine ir_l (pc' := 292) rfl rfl rfl rfl rfl rfl ?_
      refine ir_k (pc' := 293) (v := (0, 2)) rfl rfl rfl (fun _ => rfl) ?_
      refine ir_add (pc' := 294) rfl rfl (by omega) (by omega) ?_
      refine ir_xld (pc' := 295) rfl rfl hL (by omega) (by omega) ?_
      refine ir_cVI (pc' := 298) rfl rfl rfl rfl rfl (Nat.le_of_ble_eq_true rfl) oo_X10_sign vg_582 (w_sign L ys 83 s1 J1.2.1 (ys (i + 1).toNat).toInt (i32_r _) (ys (i + 2).toNat).toInt (i32_r _) (fun _ s' => wgf s' 1 = wgf s1 1 ∧ rd s' ∧ rfq s1 s') (sign_q J1.2.2.2.1 (fun v => ⟨rfl, J1.2.2.2.1, rfq_rfl⟩))) (fun v2 s2 hr => ?_)
      obtain ⟨q1, _, q2, q3, q5⟩ := hr
      have q4 := rfq_clf q5
      refine ir_x (pc' := 299) rfl rfl rfl (fun _ => rfl) ?_
      refine ir_goto (pc' := 533) rfl rfl ?_
      exact nxt s2 hi4 ⟨⟨⟨LI_ref (n := wgf s 1) J1.1 J1.2.2.2.2 J0 q1 q4 (q2.trans w1) hb q3, clf_KP q4 K1⟩, agr_o hI hG (fr_rsm r2) J0 T1 q5⟩, RA_o hA (fr_rsm r2) T1 q5⟩
    · refine ir_tab (pc' := 302) 8 rfl (show z = 0 + ((8 : Nat) : Int) by omega) (by decide) rfl rfl ?_
      refine ir_l (pc' := 303) rfl rfl rfl rfl rfl rfl ?_
      refine ir_l (pc' := 304) rfl rfl rfl rfl rfl rfl ?_
      refine ir_l (pc' := 305) rfl rfl rfl rfl rfl rfl ?_
      refine ir_k (pc' := 306) (v := (0, 1)) rfl rfl rfl (fun _ => rfl) ?_
      refine ir_add (pc' := 307) rfl rfl (by omega) (by omega) ?_
      refine ir_xld (pc' := 308) rfl rfl hL (by omega) (by omega) ?_
      refine ir_l (pc' := 309) rfl rfl rfl rfl rfl rfl ?_
      refine ir_l (pc' := 310) rfl rfl rfl rfl rfl rfl ?_
      refine ir_k (pc' := 311) (v := (0, 2)) rfl rfl rfl (fun _ => rfl) ?_
      refine ir_add (pc' := 312) rfl rfl (by omega) (by omega) ?_
      refine ir_xld (pc' := 313) rfl rfl hL (by omega) (by omega) ?_
      refine ir_cVI (pc' := 316) rfl rfl rfl rfl rfl (Nat.le_of_ble_eq_true rfl) oo_X9_root (gG_at tsk_0) (icK (sf_root9 L ys 79 s hI.1 (ys (i + 1).toNat).toInt (i32_r _).1 (i32_r _).2 (ys (i + 2).toNat).toInt (i32_r _).1 (i32_r _).2 hI.2.2.2.2.2) (T_root L ys 86 s hI2.2 (ys (i + 1).toNat).toInt (i32_r _) (ys (i + 2).toNat).toInt (i32_r _))) (fun v s1 hr => ?_)
      obtain ⟨⟨r1, r2, _⟩, K1, T1⟩ := hr
      have J1 : LJ s s1 := LJ_fr hI r1 r2 (by decide) (by decide)
      have J0 := LJ_0 hI r2 (by decide)
      have w1 := J1.2.2.1 1
      have hb := hI.2.2.1
      refine ir_x (pc' := 317) rfl rfl rfl (fun _ => rfl) ?_
      refine ir_l (pc' := 318) rfl rfl rfl rfl rfl rfl ?_
      refine ir_l (pc' := 319) rfl rfl rfl rfl rfl rfl ?_
      refine ir_l (pc' := 320) rfl rfl rfl rfl rfl rfl ?_
      refine ir_k (pc' := 321) (v := (0, 1)) rfl rfl rfl (fun _ => rfl) ?_
      refine ir_add (pc' := 322) rfl rfl (by omega) (by omega) ?_
      refine ir_xld (pc' := 323) rfl rfl hL (by omega) (by omega) ?_
      refine ir_l (pc' := 324) rfl rfl rfl rfl rfl rfl ?_
      refine ir_l (pc' := 325) rfl rfl rfl rfl rfl rfl ?_
      refine ir_k (pc' := 326) (v := (0, 2)) rfl rfl rfl (fun _ => rfl) ?_
      refine ir_add (pc' := 327) rfl rfl (by omega) (by omega) ?_
      refine ir_xld (pc' := 328) rfl rfl hL (by omega) (by omega) ?_
      refine ir_cVI (pc' := 331) rfl rfl rfl rfl rfl (Nat.le_of_ble_eq_true rfl) oo_X10_root vg_582 (w_root L ys 78 s1 J1.2.1 (ys (i + 1).toNat).toInt (i32_r _) (ys (i + 2).toNat).toInt (i32_r _) (fun _ s' => wgf s' 1 = wgf s1 1 ∧ rd s' ∧ rfq s1 s') (root_q J1.2.2.2.1 (fun v s' a b => ⟨rfq_f a 1 (by decide), b, a⟩))) (fun v2 s2 hr => ?_)
      obtain ⟨q1, _, q2, q3, q5⟩ := hr
      have q4 := rfq_clf q5
      refine ir_x (pc' := 332) rfl rfl rfl (fun _ => rfl) ?_
      refine ir_goto (pc' := 533) rfl rfl ?_
      exact nxt s2 hi4 ⟨⟨⟨LI_ref (n := wgf s 1) J1.1 J1.2.2.2.2 J0 q1 q4 (q2.trans w1) hb q3, clf_KP q4 K1⟩, agr_o hI hG (fr_rsm r2) J0 T1 q5⟩, RA_o hA (fr_rsm r2) T1 q5⟩
    · refine ir_tab (pc' := 335) 9 rfl (show z = 0 + ((9 : Nat) : Int) by omega) (by decide) rfl rfl ?_
      refine ir_l (pc' := 336) rfl rfl rfl rfl rfl rfl ?_
      refine ir_l (pc' := 337) rfl rfl rfl rfl rfl rfl ?_
      refine ir_l (pc' := 338) rfl rfl rfl rfl rfl rfl ?_
      refine ir_k (pc' := 339) (v := (0, 1)) rfl rfl rfl (fun _ => rfl) ?_
      refine ir_add (pc' := 340) rfl rfl (by omega) (by omega) ?_
      refine ir_xld (pc' := 341) rfl rfl hL (by omega) (by omega) ?_
      refine ir_l (pc' := 342) rfl rfl rfl rfl rfl rfl ?_
      refine ir_l (pc' := 343) rfl rfl rfl rfl rfl rfl ?_
      refine ir_k (pc' := 344) (v := (0, 2)) rfl rfl rfl (fun _ => rfl) ?_
      refine ir_add (pc' := 345) rfl rfl (by omega) (by omega) ?_
      refine ir_xld (pc' := 346) rfl rfl hL (by omega) (by omega) ?_
      refine ir_cVI (pc' := 349) rfl rfl rfl rfl rfl (Nat.le_of_ble_eq_true rfl) oo_X9_times (gG_at tsk_0) (icK (sf_times9 L ys 83 s hI.1 (ys (i + 1).toNat).toInt (i32_r _).1 (i32_r _).2 (ys (i + 2).toNat).toInt (i32_r _).1 (i32_r _).2) (T_times L ys 86 s hI2.2 (ys (i + 1).toNat).toInt (i32_r _) (ys (i + 2).toNat).toInt (i32_r _))) (fun v s1 hr => ?_)
      obtain ⟨⟨r1, r2, _⟩, K1, T1⟩ := hr
      have J1 : LJ s s1 := LJ_fr hI r1 r2 (by decide) (by decide)
      have J0 := LJ_0 hI r2 (by decide)
      have w1 := J1.2.2.1 1
      have hb := hI.2.2.1
      refine ir_x (pc' := 350) rfl rfl rfl (fun _ => rfl) ?_
      refine ir_l (pc' := 351) rfl rfl rfl rfl rfl rfl ?_
      refine ir_l (pc' := 352) rfl rfl rfl rfl rfl rfl ?_
      refine ir_l (pc' := 353) rfl rfl rfl rfl rfl rfl ?_
      refine ir_k (pc' := 354) (v := (0, 1)) rfl rfl rfl (fun _ => rfl) ?_
      refine ir_add (pc' := 355) rfl rfl (by omega) (by omega) ?_
      refine ir_xld (pc' := 356) rfl rfl hL (by omega) (by omega) ?_
      refine ir_l (pc' := 357) rfl rfl rfl rfl rfl rfl ?_
      refine ir_l (pc' := 358) rfl rfl rfl rfl rfl rfl ?_
      refine ir_k (pc' := 359) (v := (0, 2)) rfl rfl rfl (fun _ => rfl) ?_
      refine ir_add (pc' := 360) rfl rfl (by omega) (by omega) ?_
      refine ir_xld (pc' := 361) rfl rfl hL (by omega) (by omega) ?_
      refine ir_cVI (pc' := 364) rfl rfl rfl rfl rfl (Nat.le_of_ble_eq_true rfl) oo_X10_times vg_582 (w_times L ys 84 s1 J1.2.1 (ys (i + 1).toNat).toInt (i32_r _) (ys (i + 2).toNat).toInt (i32_r _) (fun _ s' => wgf s' 1 = wgf s1 1 ∧ rd s' ∧ rfq s1 s') (times_q J1.2.2.2.1 (fun v => ⟨rfl, J1.2.2.2.1, rfq_rfl⟩))) (fun v2 s2 hr => ?_)
      obtain ⟨q1, _, q2, q3, q5⟩ := hr
      have q4 := rfq_clf q5
      refine ir_x (pc' := 365) rfl rfl rfl (fun _ => rfl) ?_
      refine ir_goto (pc' := 533) rfl rfl ?_
      exact nxt s2 hi4 ⟨⟨⟨LI_ref (n := wgf s 1) J1.1 J1.2.2.2.2 J0 q1 q4 (q2.trans w1) hb q3, clf_KP q4 K1⟩, agr_o hI hG (fr_rsm r2) J0 T1 q5⟩, RA_o hA (fr_rsm r2) T1 q5⟩
    · refine ir_tab (pc' := 368) 10 rfl (show z = 0 + ((10 : Nat) : Int) by omega) (by decide) rfl rfl ?_
      refine ir_l (pc' := 369) rfl rfl rfl rfl rfl rfl ?_
      refine ir_l (pc' := 370) rfl rfl rfl rfl rfl rfl ?_
      refine ir_l (pc' := 371) rfl rfl rfl rfl rfl rfl ?_
      refine ir_k (pc' := 372) (v := (0, 1)) rfl rfl rfl (fun _ => rfl) ?_
      refine ir_add (pc' := 373) rfl rfl (by omega) (by omega) ?_
      refine ir_xld (pc' := 374) rfl rfl hL (by omega) (by omega) ?_
      refine ir_l (pc' := 375) rfl rfl rfl rfl rfl rfl ?_
      refine ir_l (pc' := 376) rfl rfl rfl rfl rfl rfl ?_
      refine ir_k (pc' := 377) (v := (0, 2)) rfl rfl rfl (fun _ => rfl) ?_
      refine ir_add (pc' := 378) rfl rfl (by omega) (by omega) ?_
      refine ir_xld (pc' := 379) rfl rfl hL (by omega) (by omega) ?_
      refine ir_cVI (pc' := 382) rfl rfl rfl rfl rfl (Nat.le_of_ble_eq_true rfl) oo_X9_exact (gG_at tsk_0) (icK (sf_exact9 L ys 83 s hI.1 (ys (i + 1).toNat).toInt (i32_r _).1 (i32_r _).2 (ys (i + 2).toNat).toInt (i32_r _).1 (i32_r _).2) (T_exact L ys 86 s hI2.2 (ys (i + 1).toNat).toInt (i32_r _) (ys (i + 2).toNat).toInt (i32_r _))) (fun v s1 hr => ?_)
      obtain ⟨⟨r1, r2, _⟩, K1, T1⟩ := hr
      have J1 : LJ s s1 := LJ_fr hI r1 r2 (by decide) (by decide)
      have J0 := LJ_0 hI r2 (by decide)
      have w1 := J1.2.2.1 1
      have hb := hI.2.2.1
      refine ir_x (pc' := 383) rfl rfl rfl (fun _ => rfl) ?_
      refine ir_l (pc' := 384) rfl rfl rfl rfl rfl rfl ?_
      refine ir_l (pc' := 385) rfl rfl rfl rfl rfl rfl ?_
      refine ir_l (pc' := 386) rfl rfl rfl rfl rfl rfl ?_
      refine ir_k (pc' := 387) (v := (0, 1)) rfl rfl rfl (fun _ => rfl) ?_
      refine ir_add (pc' := 388) rfl rfl (by omega) (by omega) ?_
      refine ir_xld (pc' := 389) rfl rfl hL (by omega) (by omega) ?_
      refine ir_l (pc' := 390) rfl rfl rfl rfl rfl rfl ?_
      refine ir_l (pc' := 391) rfl rfl rfl rfl rfl rfl ?_
      refine ir_k (pc' := 392) (v := (0, 2)) rfl rfl rfl (fun _ => rfl) ?_
      refine ir_add (pc' := 393) rfl rfl (by omega) (by omega) ?_
      refine ir_xld (pc' := 394) rfl rfl hL (by omega) (by omega) ?_
      refine ir_cVI (pc' := 397) rfl rfl rfl rfl rfl (Nat.le_of_ble_eq_true rfl) oo_X10_exact vg_582 (w_exact L ys 84 s1 J1.2.1 (ys (i + 1).toNat).toInt (i32_r _) (ys (i + 2).toNat).toInt (i32_r _) (fun _ s' => wgf s' 1 = wgf s1 1 ∧ rd s' ∧ rfq s1 s') (exact_q J1.2.2.2.1 (fun v => ⟨rfl, J1.2.2.2.1, rfq_rfl⟩))) (fun v2 s2 hr => ?_)
      obtain ⟨q1, _, q2, q3, q5⟩ := hr
      have q4 := rfq_clf q5
      refine ir_x (pc' := 398) rfl rfl rfl (fun _ => rfl) ?_
      refine ir_goto (pc' := 533) rfl rfl ?_
      exact nxt s2 hi4 ⟨⟨⟨LI_ref (n := wgf s 1) J1.1 J1.2.2.2.2 J0 q1 q4 (q2.trans w1) hb q3, clf_KP q4 K1⟩, agr_o hI hG (fr_rsm r2) J0 T1 q5⟩, RA_o hA (fr_rsm r2) T1 q5⟩
    · refine ir_tab (pc' := 401) 11 rfl (show z = 0 + ((11 : Nat) : Int) by omega) (by decide) rfl rfl ?_
      refine ir_l (pc' := 402) rfl rfl rfl rfl rfl rfl ?_
      refine ir_l (pc' := 403) rfl rfl rfl rfl rfl rfl ?_
      refine ir_l (pc' := 404) rfl rfl rfl rfl rfl rfl ?_
      refine ir_k (pc' := 405) (v := (0, 1)) rfl rfl rfl (fun _ => rfl) ?_
      refine ir_add (pc' := 406) rfl rfl (by omega) (by omega) ?_
      refine ir_xld (pc' := 407) rfl rfl hL (by omega) (by omega) ?_
      refine ir_cVI (pc' := 410) rfl rfl rfl rfl rfl (Nat.le_of_ble_eq_true rfl) oo_X9_common (gG_at tsk_0) (icK (sf_common9 L ys 83 s hI.1 (ys (i + 1).toNat).toInt (i32_r _).1 (i32_r _).2) (T_common L ys 86 s hI2.2 (ys (i + 1).toNat).toInt (i32_r _))) (fun v s1 hr => ?_)
      obtain ⟨⟨r1, r2, _⟩, K1, T1⟩ := hr
      have J1 : LJ s s1 := LJ_fr hI r1 r2 (by decide) (by decide)
      have J0 := LJ_0 hI r2 (by decide)
      have w1 := J1.2.2.1 1
      have hb := hI.2.2.1
      refine ir_x (pc' := 411) rfl rfl rfl (fun _ => rfl) ?_
      refine ir_l (pc' := 412) rfl rfl rfl rfl rfl rfl ?_
      refine ir_l (pc' := 413) rfl rfl rfl rfl rfl rfl ?_
      refine ir_l (pc' := 414) rfl rfl rfl rfl rfl rfl ?_
      refine ir_k (pc' := 415) (v := (0, 1)) rfl rfl rfl (fun _ => rfl) ?_
      refine ir_add (pc' := 416) rfl rfl (by omega) (by omega) ?_
      refine ir_xld (pc' := 417) rfl rfl hL (by omega) (by omega) ?_
      refine ir_cVI (pc' := 420) rfl rfl rfl rfl rfl (Nat.le_of_ble_eq_true rfl) oo_X10_common vg_582 (w_common L ys 84 s1 J1.2.1 (ys (i + 1).toNat).toInt (i32_r _) (fun _ s' => wgf s' 1 = wgf s1 1 ∧ rd s' ∧ rfq s1 s') (common_q J1.2.2.2.1 (fun v => ⟨rfl, J1.2.2.2.1, rfq_rfl⟩))) (fun v2 s2 hr => ?_)
      obtain ⟨q1, _, q2, q3, q5⟩ := hr
      have q4 := rfq_clf q5
      refine ir_x (pc' := 421) rfl rfl rfl (fun _ => rfl) ?_
      refine ir_goto (pc' := 533) rfl rfl ?_
      exact nxt s2 hi4 ⟨⟨⟨LI_ref (n := wgf s 1) J1.1 J1.2.2.2.2 J0 q1 q4 (q2.trans w1) hb q3, clf_KP q4 K1⟩, agr_o hI hG (fr_rsm r2) J0 T1 q5⟩, RA_o hA (fr_rsm r2) T1 q5⟩
    · refine ir_tab (pc' := 424) 12 rfl (show z = 0 + ((12 : Nat) : Int) by omega) (by decide) rfl rfl ?_
      refine ir_l (pc' := 425) rfl rfl rfl rfl rfl rfl ?_
      refine ir_l (pc' := 426) rfl rfl rfl rfl rfl rfl ?_
      refine ir_l (pc' := 427) rfl rfl rfl rfl rfl rfl ?_
      refine ir_k (pc' := 428) (v := (0, 1)) rfl rfl rfl (fun _ => rfl) ?_
      refine ir_add (pc' := 429) rfl rfl (by omega) (by omega) ?_
      refine ir_xld (pc' := 430) rfl rfl hL (by omega) (by omega) ?_
      refine ir_l (pc' := 431) rfl rfl rfl rfl rfl rfl ?_
      refine ir_l (pc' := 432) rfl rfl rfl rfl rfl rfl ?_
      refine ir_k (pc' := 433) (v := (0, 2)) rfl rfl rfl (fun _ => rfl) ?_
      refine ir_add (pc' := 434) rfl rfl (by omega) (by omega) ?_
      refine ir_xld (pc' := 435) rfl rfl hL (by omega) (by omega) ?_
      refine ir_cVI (pc' := 438) rfl rfl rfl rfl rfl (Nat.le_of_ble_eq_true rfl) oo_X9_simple (gG_at tsk_0) (icK (sf_simple9 L ys 78 s hI.1 (ys (i + 1).toNat).toInt (i32_r _).1 (i32_r _).2 (ys (i + 2).toNat).toInt (i32_r _).1 (i32_r _).2) (T_simple L ys 86 s hI2.2 (ys (i + 1).toNat).toInt (i32_r _) (ys (i + 2).toNat).toInt (i32_r _))) (fun v s1 hr => ?_)
      obtain ⟨⟨r1, r2, _⟩, K1, T1⟩ := hr
      have J1 : LJ s s1 := LJ_fr hI r1 r2 (by decide) (by decide)
      have J0 := LJ_0 hI r2 (by decide)
      have w1 := J1.2.2.1 1
      have hb := hI.2.2.1
      refine ir_x (pc' := 439) rfl rfl rfl (fun _ => rfl) ?_
      refine ir_l (pc' := 440) rfl rfl rfl rfl rfl rfl ?_
      refine ir_l (pc' := 441) rfl rfl rfl rfl rfl rfl ?_
      refine ir_l (pc' := 442) rfl rfl rfl rfl rfl rfl ?_
      refine ir_k (pc' := 443) (v := (0, 1)) rfl rfl rfl (fun _ => rfl) ?_
      refine ir_add (pc' := 444) rfl rfl (by omega) (by omega) ?_
      refine ir_xld (pc' := 445) rfl rfl hL (by omega) (by omega) ?_
      refine ir_l (pc' := 446) rfl rfl rfl rfl rfl rfl ?_
      refine ir_l (pc' := 447) rfl rfl rfl rfl rfl rfl ?_
      refine ir_k (pc' := 448) (v := (0, 2)) rfl rfl rfl (fun _ => rfl) ?_
      refine ir_add (pc' := 449) rfl rfl (by omega) (by omega) ?_
      refine ir_xld (pc' := 450) rfl rfl hL (by omega) (by omega) ?_
      refine ir_cVI (pc' := 453) rfl rfl rfl rfl rfl (Nat.le_of_ble_eq_true rfl) oo_X10_simple vg_582 (w_simple L ys 77 s1 J1.2.1 (ys (i + 1).toNat).toInt (i32_r _) (ys (i + 2).toNat).toInt (i32_r _) (fun _ s' => wgf s' 1 = wgf s1 1 ∧ rd s' ∧ rfq s1 s') (simple_q J1.2.2.2.1 (fun v s' a b => ⟨rfq_f a 1 (by decide), b, a⟩))) (fun v2 s2 hr => ?_)
      obtain ⟨q1, _, q2, q3, q5⟩ := hr
      have q4 := rfq_clf q5
      refine ir_x (pc' := 454) rfl rfl rfl (fun _ => rfl) ?_
      refine ir_goto (pc' := 533) rfl rfl ?_
      exact nxt s2 hi4 ⟨⟨⟨LI_ref (n := wgf s 1) J1.1 J1.2.2.2.2 J0 q1 q4 (q2.trans w1) hb q3, clf_KP q4 K1⟩, agr_o hI hG (fr_rsm r2) J0 T1 q5⟩, RA_o hA (fr_rsm r2) T1 q5⟩
    · refine ir_tab (pc' := 457) 13 rfl (show z = 0 + ((13 : Nat) : Int) by omega) (by decide) rfl rfl ?_
      refine ir_l (pc' := 458) rfl rfl rfl rfl rfl rfl ?_
      refine ir_l (pc' := 459) rfl rfl rfl rfl rfl rfl ?_
      refine ir_l (pc' := 460) rfl rfl rfl rfl rfl rfl ?_
      refine ir_k (pc' := 461) (v := (0, 1)) rfl rfl rfl (fun _ => rfl) ?_
      refine ir_add (pc' := 462) rfl rfl (by omega) (by omega) ?_
      refine ir_xld (pc' := 463) rfl rfl hL (by omega) (by omega) ?_
      refine ir_l (pc' := 464) rfl rfl rfl rfl rfl rfl ?_
      refine ir_l (pc' := 465) rfl rfl rfl rfl rfl rfl ?_
      refine ir_k (pc' := 466) (v := (0, 2)) rfl rfl rfl (fun _ => rfl) ?_
      refine ir_add (pc' := 467) rfl rfl (by omega) (by omega) ?_
      refine ir_xld (pc' := 468) rfl rfl hL (by omega) (by omega) ?_
      refine ir_cVI (pc' := 471) rfl rfl rfl rfl rfl (Nat.le_of_ble_eq_true rfl) oo_X9_cellOf (gG_at tsk_0) (icK (sf_cellOf9 L ys 79 s hI.1 (ys (i + 1).toNat).toInt (i32_r _).1 (i32_r _).2 (ys (i + 2).toNat).toInt (i32_r _).1 (i32_r _).2) (T_cellOf L ys 86 s hI2.2 (ys (i + 1).toNat).toInt (i32_r _) (ys (i + 2).toNat).toInt (i32_r _))) (fun v s1 hr => ?_)
      obtain ⟨⟨r1, r2, _⟩, K1, T1⟩ := hr
      have J1 : LJ s s1 := LJ_fr hI r1 r2 (by decide) (by decide)
      have J0 := LJ_0 hI r2 (by decide)
      have w1 := J1.2.2.1 1
      have hb := hI.2.2.1
      refine ir_x (pc' := 472) rfl rfl rfl (fun _ => rfl) ?_
      refine ir_l (pc' := 473) rfl rfl rfl rfl rfl rfl ?_
      refine ir_l (pc' := 474) rfl rfl rfl rfl rfl rfl ?_
      refine ir_l (pc' := 475) rfl rfl rfl rfl rfl rfl ?_
      refine ir_k (pc' := 476) (v := (0, 1)) rfl rfl rfl (fun _ => rfl) ?_
      refine ir_add (pc' := 477) rfl rfl (by omega) (by omega) ?_
      refine ir_xld (pc' := 478) rfl rfl hL (by omega) (by omega) ?_
      refine ir_l (pc' := 479) rfl rfl rfl rfl rfl rfl ?_
      refine ir_l (pc' := 480) rfl rfl rfl rfl rfl rfl ?_
      refine ir_k (pc' := 481) (v := (0, 2)) rfl rfl rfl (fun _ => rfl) ?_
      refine ir_add (pc' := 482) rfl rfl (by omega) (by omega) ?_
      refine ir_xld (pc' := 483) rfl rfl hL (by omega) (by omega) ?_
      refine ir_cVI (pc' := 486) rfl rfl rfl rfl rfl (Nat.le_of_ble_eq_true rfl) oo_X10_cellOf vg_582 (w_cellOf L ys 78 s1 J1.2.1 (ys (i + 1).toNat).toInt (i32_r _) (ys (i + 2).toNat).toInt (i32_r _) (fun _ s' => wgf s' 1 = wgf s1 1 ∧ rd s' ∧ rfq s1 s') (cellOf_q J1.2.2.2.1 (fun v s' a b => ⟨rfq_f a 1 (by decide), b, a⟩))) (fun v2 s2 hr => ?_)
      obtain ⟨q1, _, q2, q3, q5⟩ := hr
      have q4 := rfq_clf q5
      refine ir_x (pc' := 487) rfl rfl rfl (fun _ => rfl) ?_
      refine ir_goto (pc' := 533) rfl rfl ?_
      exact nxt s2 hi4 ⟨⟨⟨LI_ref (n := wgf s 1) J1.1 J1.2.2.2.2 J0 q1 q4 (q2.trans w1) hb q3, clf_KP q4 K1⟩, agr_o hI hG (fr_rsm r2) J0 T1 q5⟩, RA_o hA (fr_rsm r2) T1 q5⟩
    · refine ir_tab (pc' := 490) 14 rfl (show z = 0 + ((14 : Nat) : Int) by omega) (by decide) rfl rfl ?_
      refine ir_l (pc' := 491) rfl rfl rfl rfl rfl rfl ?_
      refine ir_l (pc' := 492) rfl rfl rfl rfl rfl rfl ?_
      refine ir_l (pc' := 493) rfl rfl rfl rfl rfl rfl ?_
      refine ir_k (pc' := 494) (v := (0, 1)) rfl rfl rfl (fun _ => rfl) ?_
      refine ir_add (pc' := 495) rfl rfl (by omega) (by omega) ?_
      refine ir_xld (pc' := 496) rfl rfl hL (by omega) (by omega) ?_
      refine ir_l (pc' := 497) rfl rfl rfl rfl rfl rfl ?_
      refine ir_l (pc' := 498) rfl rfl rfl rfl rfl rfl ?_
      refine ir_k (pc' := 499) (v := (0, 2)) rfl rfl rfl (fun _ => rfl) ?_
      refine ir_add (pc' := 500) rfl rfl (by omega) (by omega) ?_
      refine ir_xld (pc' := 501) rfl rfl hL (by omega) (by omega) ?_
      refine ir_l (pc' := 502) rfl rfl rfl rfl rfl rfl ?_
      refine ir_l (pc' := 503) rfl rfl rfl rfl rfl rfl ?_
      refine ir_k (pc' := 504) (v := (0, 3)) rfl rfl rfl (fun _ => rfl) ?_
      refine ir_add (pc' := 505) rfl rfl (by omega) (by omega) ?_
      refine ir_xld (pc' := 506) rfl rfl hL (by omega) (by omega) ?_
      obtain ⟨A, hA2⟩ : ∃ A, (s.1 0 3 = 0 ∧ wgf s 5 = 0) ∨ (s.1 0 3 ≠ 0 ∧ wgf s 5 ≠ 0 ∧ tat s A ∧ rat s A) := by
        rcases hA with q | ⟨q1, q2, A, q3⟩
        · exact ⟨[], Or.inl q⟩
        · exact ⟨A, Or.inr ⟨q1, q2, q3⟩⟩
      have hA3 : s.1 0 3 = 0 ∨ tat s A := by
        rcases hA2 with q | q
        · exact Or.inl q.1
        · exact Or.inr q.2.2.1
      refine ir_cVI (pc' := 509) rfl rfl rfl rfl rfl (Nat.le_of_ble_eq_true rfl) oo_X9_signAt (gG_at tsk_0) (icK (sf_signAt9 L ys 81 s hI.1 (ys (i + 1).toNat).toInt (i32_r _).1 (i32_r _).2 (ys (i + 2).toNat).toInt (i32_r _).1 (i32_r _).2 (ys (i + 3).toNat).toInt (i32_r _).1 (i32_r _).2) (V_signAt L ys 86 s hI2.2 A hA3 (ys (i + 1).toNat).toInt (i32_r _) (ys (i + 2).toNat).toInt (i32_r _) (ys (i + 3).toNat).toInt (i32_r _))) (fun v s1 hr => ?_)
      obtain ⟨⟨r1, r2, _⟩, ⟨K1, T1⟩, V1⟩ := hr
      have J1 : LJ s s1 := LJ_fr hI r1 r2 (by decide) (by decide)
      have J0 := LJ_0 hI r2 (by decide)
      have w1 := J1.2.2.1 1
      have hb := hI.2.2.1
      refine ir_l (pc' := 510) rfl rfl rfl rfl rfl rfl ?_
      refine ir_l (pc' := 511) rfl rfl rfl rfl rfl rfl ?_
      refine ir_l (pc' := 512) rfl rfl rfl rfl rfl rfl ?_
      refine ir_k (pc' := 513) (v := (0, 1)) rfl rfl rfl (fun _ => rfl) ?_
      refine ir_add (pc' := 514) rfl rfl (by omega) (by omega) ?_
      refine ir_xld (pc' := 515) rfl rfl hL (by omega) (by omega) ?_
      refine ir_l (pc' := 516) rfl rfl rfl rfl rfl rfl ?_
      refine ir_l (pc' := 517) rfl rfl rfl rfl rfl rfl ?_
      refine ir_k (pc' := 518) (v := (0, 2)) rfl rfl rfl (fun _ => rfl) ?_
      refine ir_add (pc' := 519) rfl rfl (by omega) (by omega) ?_
      refine ir_xld (pc' := 520) rfl rfl hL (by omega) (by omega) ?_
      refine ir_l (pc' := 521) rfl rfl rfl rfl rfl rfl ?_
      refine ir_l (pc' := 522) rfl rfl rfl rfl rfl rfl ?_
      refine ir_k (pc' := 523) (v := (0, 3)) rfl rfl rfl (fun _ => rfl) ?_
      refine ir_add (pc' := 524) rfl rfl (by omega) (by omega) ?_
      refine ir_xld (pc' := 525) rfl rfl hL (by omega) (by omega) ?_
      refine ir_cVI (pc' := 528) rfl rfl rfl rfl rfl (Nat.le_of_ble_eq_true rfl) oo_X10_signAt vg_582 (w_signAt L ys 81 s1 J1.2.1 (ys (i + 1).toNat).toInt (i32_r _) (ys (i + 2).toNat).toInt (i32_r _) (ys (i + 3).toNat).toInt (i32_r _) (fun v s' => wgf s' 1 = wgf s1 1 ∧ rd s' ∧ rfq s1 s' ∧ sgQ (wgf s1 5) (wgf s1 6) (ys (i + 1).toNat).toInt (ys (i + 2).toNat).toInt (ys (i + 3).toNat).toInt (rpo s1 (ys (i + 1).toNat).toInt) v) (signAt_qv J1.2.2.2.1 (fun v s' a b e => ⟨rfq_f a 1 (by decide), b, a, e⟩))) (fun v2 s2 hr => ?_)
      obtain ⟨q1, _, q2, q3, q5, V2⟩ := hr
      have ev : v = v2 := sg_same hA2 (fr_rsm r2) V1 V2
      have q4 := rfq_clf q5
      refine ir_c_eq (pt := 533) (pc' := 531) rfl rfl rfl (fun _ => ?_) (fun q => absurd ev q)
      exact nxt s2 hi4 ⟨⟨⟨LI_ref (n := wgf s 1) J1.1 J1.2.2.2.2 J0 q1 q4 (q2.trans w1) hb q3, clf_KP q4 K1⟩, agr_o hI hG (fr_rsm r2) J0 T1 q5⟩, RA_o hA (fr_rsm r2) T1 q5⟩
    · refine ir_tabD (pc' := 533) rfl hz rfl ?_
      exact nxt s hi4 ⟨⟨hI2, hG⟩, hA⟩
