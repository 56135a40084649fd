/-! WALKS OF THE CLASS'S METHODS, by program -/
theorem sf_part5 (L : Nat) (ys : Nat → Int32) (d : Nat) (s0 : im_S) (hT0 : tI s0) (a1 : Nat) (a1k : gK[a1]? = some 4) (x3 : Int) (x3l : 0 ≤ x3) (x3h : x3 ≤ 80) : icI gG rm_P L ys 0 (d + 6) 167 [(2, ((267 : Nat) : Int)), (2, (a1 : Int)), (2, ((310 : Nat) : Int)), (0, x3)] s0 (fun z s => tI s ∧ fr [(15, 4), (15, 5), (16, 1), (16, 2), (19, 1), (19, 2), (23, 1), (23, 7), (23, 8)] s0 s ∧ 0 ≤ z ∧ z ≤ 80) := by
  refine ic_startM (M := rm_p_X5_part) om_X5_part (Nat.le_of_ble_eq_true rfl) ?_
  refine ir_w [(0, (2, ((267 : Nat) : Int))), (1, (2, ((a1 : Nat) : Int))), (2, (2, ((310 : Nat) : Int))), (3, (0, x3))] ⟨rfl, rfl, rfl, rfl, trivial⟩ ?_
  have hF0 := fr_refl [(15, 4), (15, 5), (16, 1), (16, 2), (19, 1), (19, 2), (23, 1), (23, 7), (23, 8)] s0
  have J151 : ∀ (q151_l5 : Int) (q151_l5l : 0 ≤ q151_l5) (q151_l5h : q151_l5 ≤ 80) (s_151 : im_S) (hT_151 : tI s_151) (hF_151 : fr [(15, 4), (15, 5), (16, 1), (16, 2), (19, 1), (19, 2), (23, 1), (23, 7), (23, 8)] s0 s_151), ir gG rm_P L ys (d + 5) rm_p_X5_part (151, [(5, (0, q151_l5))], [], s_151) (fun r : im_Re => ∃ z, r.1 = some (0, z) ∧ (tI r.2 ∧ fr [(15, 4), (15, 5), (16, 1), (16, 2), (19, 1), (19, 2), (23, 1), (23, 7), (23, 8)] s0 r.2 ∧ 0 ≤ z ∧ z ≤ 80)) := by
    intro q151_l5 q151_l5l q151_l5h s_151 hT_151 hF_151
    refine ir_l (pc' := 153) rfl rfl rfl rfl rfl rfl ?_
    exact ir_iret rfl rfl ⟨_, rfl, hT_151, hF_151, by omega, by omega⟩
  have J20 : ∀ n : Nat, ∀ (q20_l4 : Int) (q20_l4l : -30 ≤ q20_l4) (q20_l4h : q20_l4 ≤ 32) (q20_l5 : Int) (q20_l5l : 0 ≤ q20_l5) (q20_l5h : q20_l5 ≤ 80) (q20_l6 : Int) (q20_l6l : 0 ≤ q20_l6) (q20_l6h : q20_l6 ≤ 100000) (s_20 : im_S) (hT_20 : tI s_20) (hF_20 : fr [(15, 4), (15, 5), (16, 1), (16, 2), (19, 1), (19, 2), (23, 1), (23, 7), (23, 8)] s0 s_20), (100000 + 1 - q20_l6) ≤ (n : Int) → ir gG rm_P L ys (d + 5) rm_p_X5_part (20, [(0, (2, ((267 : Nat) : Int))), (2, (2, ((310 : Nat) : Int))), (4, (0, q20_l4)), (5, (0, q20_l5)), (6, (0, q20_l6))], [], s_20) (fun r : im_Re => ∃ z, r.1 = some (0, z) ∧ (tI r.2 ∧ fr [(15, 4), (15, 5), (16, 1), (16, 2), (19, 1), (19, 2), (23, 1), (23, 7), (23, 8)] s0 r.2 ∧ 0 ≤ z ∧ z ≤ 80)) := by
    intro n
    induction n with
    | zero => intro q20_l4 q20_l4l q20_l4h q20_l5 q20_l5l q20_l5h q20_l6 q20_l6l q20_l6h s_20 hT_20 hF_20 hr; exfalso; omega
    | succ n ih20 =>
      intro q20_l4 q20_l4l q20_l4h q20_l5 q20_l5l q20_l5h q20_l6 q20_l6l q20_l6h s_20 hT_20 hF_20 hr
      have J145 : ∀ (q145_l5 : Int) (q145_l5l : 0 ≤ q145_l5) (q145_l5h : q145_l5 ≤ 80) (f145_6h : q20_l6 ≤ 99999) (s_145 : im_S) (hT_145 : tI s_145) (hF_145 : fr [(15, 4), (15, 5), (16, 1), (16, 2), (19, 1), (19, 2), (23, 1), (23, 7), (23, 8)] s0 s_145) (w145_267_0 : Nat) (w145_267_0k : gK[w145_267_0]? = some 17) (w145_267_0e : s_145.1 267 0 = ((w145_267_0 : Nat) : Int)), ir gG rm_P L ys (d + 5) rm_p_X5_part (145, [(0, (2, ((267 : Nat) : Int))), (2, (2, ((310 : Nat) : Int))), (4, (0, q20_l4)), (5, (0, q145_l5)), (6, (0, q20_l6))], [], s_145) (fun r : im_Re => ∃ z, r.1 = some (0, z) ∧ (tI r.2 ∧ fr [(15, 4), (15, 5), (16, 1), (16, 2), (19, 1), (19, 2), (23, 1), (23, 7), (23, 8)] s0 r.2 ∧ 0 ≤ z ∧ z ≤ 80)) := by
        intro q145_l5 q145_l5l q145_l5h f145_6h s_145 hT_145 hF_145 w145_267_0 w145_267_0k w145_267_0e
        refine ir_inc (pc' := 148) rfl rfl rfl rfl rfl (by omega) (by omega) ?_
        refine ir_goto (pc' := 20) rfl rfl ?_
        refine ir_w [(0, (2, ((267 : Nat) : Int))), (2, (2, ((310 : Nat) : Int))), (4, (0, q20_l4)), (5, (0, q145_l5)), (6, (0, (q20_l6 + 1)))] ⟨rfl, rfl, rfl, rfl, rfl, trivial⟩ ?_
        exact ih20 (q20_l4) (by omega) (by omega) (q145_l5) (by omega) (by omega) ((q20_l6 + 1)) (by omega) (by omega) s_145 hT_145 hF_145 (by omega)
      have J133 : ∀ (q133_l5 : Int) (q133_l5l : 0 ≤ q133_l5) (q133_l5h : q133_l5 ≤ 80) (f133_6h : q20_l6 ≤ 99999) (s_133 : im_S) (hT_133 : tI s_133) (hF_133 : fr [(15, 4), (15, 5), (16, 1), (16, 2), (19, 1), (19, 2), (23, 1), (23, 7), (23, 8)] s0 s_133) (w133_267_0 : Nat) (w133_267_0k : gK[w133_267_0]? = some 17) (w133_267_0e : s_133.1 267 0 = ((w133_267_0 : Nat) : Int)) (w133_267_4 : Int) (w133_267_4l : 1 ≤ w133_267_4) (w133_267_4h : w133_267_4 ≤ 8) (w133_267_4e : s_133.1 267 4 = w133_267_4), ir gG rm_P L ys (d + 5) rm_p_X5_part (133, [(0, (2, ((267 : Nat) : Int))), (2, (2, ((310 : Nat) : Int))), (4, (0, q20_l4)), (5, (0, q133_l5)), (6, (0, q20_l6))], [], s_133) (fun r : im_Re => ∃ z, r.1 = some (0, z) ∧ (tI r.2 ∧ fr [(15, 4), (15, 5), (16, 1), (16, 2), (19, 1), (19, 2), (23, 1), (23, 7), (23, 8)] s0 r.2 ∧ 0 ≤ z ∧ z ≤ 80)) := by
        intro q133_l5 q133_l5l q133_l5h f133_6h s_133 hT_133 hF_133 w133_267_0 w133_267_0k w133_267_0e w133_267_4 w133_267_4l w133_267_4h w133_267_4e
        refine ir_l (pc' := 134) rfl rfl rfl rfl rfl rfl ?_
        refine ir_l (pc' := 136) rfl rfl rfl rfl rfl rfl ?_
        refine ir_cVI (pc' := 139) rfl rfl rfl rfl rfl (Nat.le_of_ble_eq_true rfl) oo_X5_stepOn (gG_at tsk_15) (sf_stepOn5 L ys d s_133 hT_133 (q20_l4) (by omega) (by omega) ) (fun z1 s2 hr => ?_)
        obtain ⟨hT2, hG2, z1l, z1h⟩ := hr
        have hF2 := fr_trans hF_133 hG2 (by decide)
        have e3 : s2.1 267 4 = w133_267_4 := (hG2.1 _ _ tsk_15 4 (by decide)).trans w133_267_4e
        have e4 : s2.1 267 0 = ((w133_267_0 : Nat) : Int) := (hG2.1 _ _ tsk_15 0 (by decide)).trans w133_267_0e
        refine ir_z_ne (pt := 145) (pc' := 142) rfl rfl rfl (fun c5 => ?_) (fun c5 => ?_)
        · refine ir_w [(0, (2, ((267 : Nat) : Int))), (2, (2, ((310 : Nat) : Int))), (4, (0, q20_l4)), (5, (0, q133_l5)), (6, (0, q20_l6))] ⟨rfl, rfl, rfl, rfl, rfl, trivial⟩ ?_
          exact J145 (q133_l5) (by omega) (by omega) (by omega) s2 hT2 hF2 w133_267_0 w133_267_0k e4
        · refine ir_goto (pc' := 151) rfl rfl ?_
          refine ir_w [(5, (0, q133_l5))] ⟨rfl, trivial⟩ ?_
          exact J151 (q133_l5) (by omega) (by omega) s2 hT2 hF2
      have J108 : ∀ (q108_l7 : Int) (q108_l7l : 0 ≤ q108_l7) (q108_l7h : q108_l7 ≤ 2) (f108_5h : q20_l5 ≤ 79) (f108_6h : q20_l6 ≤ 99999) (s_108 : im_S) (hT_108 : tI s_108) (hF_108 : fr [(15, 4), (15, 5), (16, 1), (16, 2), (19, 1), (19, 2), (23, 1), (23, 7), (23, 8)] s0 s_108) (w108_267_0 : Nat) (w108_267_0k : gK[w108_267_0]? = some 17) (w108_267_0e : s_108.1 267 0 = ((w108_267_0 : Nat) : Int)) (w108_267_4 : Int) (w108_267_4l : 1 ≤ w108_267_4) (w108_267_4h : w108_267_4 ≤ 8) (w108_267_4e : s_108.1 267 4 = w108_267_4), ir gG rm_P L ys (d + 5) rm_p_X5_part (108, [(0, (2, ((267 : Nat) : Int))), (2, (2, ((310 : Nat) : Int))), (4, (0, q20_l4)), (5, (0, q20_l5)), (6, (0, q20_l6)), (7, (0, q108_l7))], [], s_108) (fun r : im_Re => ∃ z, r.1 = some (0, z) ∧ (tI r.2 ∧ fr [(15, 4), (15, 5), (16, 1), (16, 2), (19, 1), (19, 2), (23, 1), (23, 7), (23, 8)] s0 r.2 ∧ 0 ≤ z ∧ z ≤ 80)) := by
        intro q108_l7 q108_l7l q108_l7h f108_5h f108_6h s_108 hT_108 hF_108 w108_267_0 w108_267_0k w108_267_0e w108_267_4 w108_267_4l w108_267_4h w108_267_4e
        refine ir_l (pc' := 110) rfl rfl rfl rfl rfl rfl ?_
        refine ir_k (pc' := 111) (v := (0, 1)) rfl rfl rfl (fun _ => rfl) ?_
        refine ir_c_ne (pt := 133) (pc' := 114) rfl rfl rfl (fun c6 => ?_) (fun c6 => ?_)
        · refine ir_w [(0, (2, ((267 : Nat) : Int))), (2, (2, ((310 : Nat) : Int))), (4, (0, q20_l4)), (5, (0, q20_l5)), (6, (0, q20_l6))] ⟨rfl, rfl, rfl, rfl, rfl, trivial⟩ ?_
          exact J133 (q20_l5) (by omega) (by omega) (by omega) s_108 hT_108 hF_108 w108_267_0 w108_267_0k w108_267_0e (w108_267_4) (by omega) (by omega) w108_267_4e
        · refine ir_l (pc' := 115) rfl rfl rfl rfl rfl rfl ?_
          refine ir_l (pc' := 117) rfl rfl rfl rfl rfl rfl ?_
          refine ir_taa (pc' := 118) (k2 := 23) rfl rfl te_24 (by decide) tsk_24 hT_108 (by omega) (by omega) (fun b7 b7k => ?_)
          refine ir_l (pc' := 119) rfl rfl rfl rfl rfl rfl ?_
          refine ir_tgr (pc' := 122) rfl rfl rfl tf_15_2 tsk_15 hT_108 (fun b8 b8e b8k => ?_)
          refine ir_l (pc' := 123) rfl rfl rfl rfl rfl rfl ?_
          refine ir_tgi (pc' := 126) rfl rfl rfl tf_15_5 tsk_15 hT_108 (fun z9 z9e z9l z9h => ?_)
          refine ir_k (pc' := 127) (v := (0, 0)) rfl rfl rfl (fun _ => rfl) ?_
          refine ir_cVV (pc' := 130) rfl rfl rfl rfl rfl (Nat.le_of_ble_eq_true rfl) oo_X8_start (gG_at b7k) (sf_start8 L ys (d + 2) s_108 hT_108 b7 b7k b8 b8k (z9) (by omega) (by omega) (0) (by omega) (by omega) ) (fun s11 hr => ?_)
          obtain ⟨hT11, hG11⟩ := hr
          have hF11 := fr_trans hF_108 hG11 (by decide)
          have e12 : s11.1 267 4 = w108_267_4 := (hG11.1 _ _ tsk_15 4 (by decide)).trans w108_267_4e
          have e13 : s11.1 267 0 = ((w108_267_0 : Nat) : Int) := (hG11.1 _ _ tsk_15 0 (by decide)).trans w108_267_0e
          have e14 : s11.1 267 2 = ((b8 : Nat) : Int) := (hG11.1 _ _ tsk_15 2 (by decide)).trans b8e
          have e15 : s11.1 267 5 = z9 := (hG11.1 _ _ tsk_15 5 (by decide)).trans z9e
          refine ir_inc (pc' := 133) rfl rfl rfl rfl rfl (by omega) (by omega) ?_
          refine ir_w [(0, (2, ((267 : Nat) : Int))), (2, (2, ((310 : Nat) : Int))), (4, (0, q20_l4)), (5, (0, (q20_l5 + 1))), (6, (0, q20_l6))] ⟨rfl, rfl, rfl, rfl, rfl, trivial⟩ ?_
          exact J133 ((q20_l5 + 1)) (by omega) (by omega) (by omega) s11 hT11 hF11 w108_267_0 w108_267_0k e13 (w108_267_4) (by omega) (by omega) e12
      refine ir_l (pc' := 22) rfl rfl rfl rfl rfl rfl ?_
      refine ir_k (pc' := 24) (v := (0, 100000)) rfl rfl rfl (fun _ => rfl) ?_
      refine ir_c_ge (pt := 151) (pc' := 27) rfl rfl rfl (fun c16 => ?_) (fun c16 => ?_)
      · refine ir_w [(5, (0, q20_l5))] ⟨rfl, trivial⟩ ?_
        exact J151 (q20_l5) (by omega) (by omega) s_20 hT_20 hF_20
      · refine ir_l (pc' := 28) rfl rfl rfl rfl rfl rfl ?_
        refine ir_tgi (pc' := 31) rfl rfl rfl tf_15_4 tsk_15 hT_20 (fun z17 z17e z17l z17h => ?_)
        refine ir_z_le (pt := 151) (pc' := 34) rfl rfl rfl (fun c18 => ?_) (fun c18 => ?_)
        · refine ir_w [(5, (0, q20_l5))] ⟨rfl, trivial⟩ ?_
          exact J151 (q20_l5) (by omega) (by omega) s_20 hT_20 hF_20
        · refine ir_l (pc' := 36) rfl rfl rfl rfl rfl rfl ?_
          refine ir_l (pc' := 37) rfl rfl rfl rfl rfl rfl ?_
          refine ir_tlen (pc' := 38) rfl rfl te_24 (by decide) tsk_24 ?_
          refine ir_c_ge (pt := 151) (pc' := 41) rfl rfl rfl (fun c19 => ?_) (fun c19 => ?_)
          · refine ir_w [(5, (0, q20_l5))] ⟨rfl, trivial⟩ ?_
            exact J151 (q20_l5) (by omega) (by omega) s_20 hT_20 hF_20
          · refine ir_l (pc' := 42) rfl rfl rfl rfl rfl rfl ?_
            refine ir_tgr (pc' := 45) rfl rfl rfl tf_15_0 tsk_15 hT_20 (fun b20 b20e b20k => ?_)
            refine ir_k (pc' := 46) (v := (0, 0)) rfl rfl rfl (fun _ => rfl) ?_
            refine ir_taa (pc' := 47) (k2 := 16) rfl rfl te_17 (by decide) b20k hT_20 (by omega) (by omega) (fun b21 b21k => ?_)
            refine ir_tgi (pc' := 50) rfl rfl rfl tf_16_2 b21k hT_20 (fun z22 z22e z22l z22h => ?_)
            refine ir_z_ne (pt := 79) (pc' := 53) rfl rfl rfl (fun c23 => ?_) (fun c23 => ?_)
            · refine ir_l (pc' := 80) rfl rfl rfl rfl rfl rfl ?_
              refine ir_cVI (pc' := 83) rfl rfl rfl rfl rfl (Nat.le_of_ble_eq_true rfl) oo_X5_changes (gG_at tsk_15) (sf_changes5 L ys (d + 1) s_20 hT_20  ) (fun z24 s25 hr => ?_)
              obtain ⟨hT25, hG25, z24l, z24h⟩ := hr
              have hF25 := fr_trans hF_20 hG25 (by decide)
              have e26 : s25.1 267 4 = z17 := (hG25.1 _ _ tsk_15 4 (by decide)).trans z17e
              have e27 : s25.1 267 0 = ((b20 : Nat) : Int) := (hG25.1 _ _ tsk_15 0 (by decide)).trans b20e
              refine ir_s (pc' := 85) rfl rfl rfl rfl rfl rfl ?_
              refine ir_l (pc' := 87) rfl rfl rfl rfl rfl rfl ?_
              refine ir_k (pc' := 88) (v := (0, 1)) rfl rfl rfl (fun _ => rfl) ?_
              refine ir_c_le (pt := 108) (pc' := 91) rfl rfl rfl (fun c28 => ?_) (fun c28 => ?_)
              · refine ir_w [(0, (2, ((267 : Nat) : Int))), (2, (2, ((310 : Nat) : Int))), (4, (0, q20_l4)), (5, (0, q20_l5)), (6, (0, q20_l6)), (7, (0, z24))] ⟨rfl, rfl, rfl, rfl, rfl, rfl, trivial⟩ ?_
                exact J108 (z24) (by omega) (by omega) (by omega) (by omega) s25 hT25 hF25 b20 b20k e27 (z17) (by omega) (by omega) e26
              · refine ir_l (pc' := 92) rfl rfl rfl rfl rfl rfl ?_
                refine ir_tgi (pc' := 95) rfl rfl rfl tf_15_5 tsk_15 hT25 (fun z29 z29e z29l z29h => ?_)
                refine ir_k (pc' := 98) (v := (0, 256)) rfl rfl rfl (fun _ => rfl) ?_
                refine ir_c_ge (pt := 108) (pc' := 101) rfl rfl rfl (fun c30 => ?_) (fun c30 => ?_)
                · refine ir_w [(0, (2, ((267 : Nat) : Int))), (2, (2, ((310 : Nat) : Int))), (4, (0, q20_l4)), (5, (0, q20_l5)), (6, (0, q20_l6)), (7, (0, z24))] ⟨rfl, rfl, rfl, rfl, rfl, rfl, trivial⟩ ?_
                  exact J108 (z24) (by omega) (by omega) (by omega) (by omega) s25 hT25 hF25 b20 b20k e27 (z17) (by omega) (by omega) e26
                · refine ir_l (pc' := 102) rfl rfl rfl rfl rfl rfl ?_
                  refine ir_cVV (pc' := 105) rfl rfl rfl rfl rfl (Nat.le_of_ble_eq_true rfl) oo_X5_halve (gG_at tsk_15) (sf_halve5 L ys (d + 2) s25 hT25  (by omega)) (fun s32 hr => ?_)
                  obtain ⟨hT32, hG32⟩ := hr
                  have hF32 := fr_trans hF25 hG32 (by decide)
                  have e33 : s32.1 267 4 = z17 := (hG32.1 _ _ tsk_15 4 (by decide)).trans e26
                  have e34 : s32.1 267 0 = ((b20 : Nat) : Int) := (hG32.1 _ _ tsk_15 0 (by decide)).trans e27
                  refine ir_goto (pc' := 145) rfl rfl ?_
                  refine ir_w [(0, (2, ((267 : Nat) : Int))), (2, (2, ((310 : Nat) : Int))), (4, (0, q20_l4)), (5, (0, q20_l5)), (6, (0, q20_l6))] ⟨rfl, rfl, rfl, rfl, rfl, trivial⟩ ?_
                  exact J145 (q20_l5) (by omega) (by omega) (by omega) s32 hT32 hF32 b20 b20k e34
            · refine ir_l (pc' := 54) rfl rfl rfl rfl rfl rfl ?_
              refine ir_l (pc' := 56) rfl rfl rfl rfl rfl rfl ?_
              refine ir_taa (pc' := 57) (k2 := 23) rfl rfl te_24 (by decide) tsk_24 hT_20 (by omega) (by omega) (fun b35 b35k => ?_)
              refine ir_l (pc' := 58) rfl rfl rfl rfl rfl rfl ?_
              refine ir_tgr (pc' := 61) rfl rfl rfl tf_15_2 tsk_15 hT_20 (fun b36 b36e b36k => ?_)
              refine ir_l (pc' := 62) rfl rfl rfl rfl rfl rfl ?_
              refine ir_tgi (pc' := 65) rfl rfl rfl tf_15_5 tsk_15 hT_20 (fun z37 z37e z37l z37h => ?_)
              refine ir_k (pc' := 66) (v := (0, 1)) rfl rfl rfl (fun _ => rfl) ?_
              refine ir_cVV (pc' := 69) rfl rfl rfl rfl rfl (Nat.le_of_ble_eq_true rfl) oo_X8_start (gG_at b35k) (sf_start8 L ys (d + 2) s_20 hT_20 b35 b35k b36 b36k (z37) (by omega) (by omega) (1) (by omega) (by omega) ) (fun s39 hr => ?_)
              obtain ⟨hT39, hG39⟩ := hr
              have hF39 := fr_trans hF_20 hG39 (by decide)
              have e40 : s39.1 267 4 = z17 := (hG39.1 _ _ tsk_15 4 (by decide)).trans z17e
              have e41 : s39.1 267 0 = ((b20 : Nat) : Int) := (hG39.1 _ _ tsk_15 0 (by decide)).trans b20e
              have e42 : s39.1 267 2 = ((b36 : Nat) : Int) := (hG39.1 _ _ tsk_15 2 (by decide)).trans b36e
              have e43 : s39.1 267 5 = z37 := (hG39.1 _ _ tsk_15 5 (by decide)).trans z37e
              refine ir_inc (pc' := 72) rfl rfl rfl rfl rfl (by omega) (by omega) ?_
              refine ir_l (pc' := 73) rfl rfl rfl rfl rfl rfl ?_
              refine ir_cVV (pc' := 76) rfl rfl rfl rfl rfl (Nat.le_of_ble_eq_true rfl) oo_X5_dropZero (gG_at tsk_15) (sf_dropZero5 L ys (d + 2) s39 hT39  (by omega)) (fun s45 hr => ?_)
              obtain ⟨hT45, hG45⟩ := hr
              have hF45 := fr_trans hF39 hG45 (by decide)
              have e46 : s45.1 267 0 = ((b20 : Nat) : Int) := (hG45.1 _ _ tsk_15 0 (by decide)).trans e41
              have e47 : s45.1 267 2 = ((b36 : Nat) : Int) := (hG45.1 _ _ tsk_15 2 (by decide)).trans e42
              have e48 : s45.1 267 5 = z37 := (hG45.1 _ _ tsk_15 5 (by decide)).trans e43
              refine ir_goto (pc' := 145) rfl rfl ?_
              refine ir_w [(0, (2, ((267 : Nat) : Int))), (2, (2, ((310 : Nat) : Int))), (4, (0, q20_l4)), (5, (0, (q20_l5 + 1))), (6, (0, q20_l6))] ⟨rfl, rfl, rfl, rfl, rfl, trivial⟩ ?_
              exact J145 ((q20_l5 + 1)) (by omega) (by omega) (by omega) s45 hT45 hF45 b20 b20k e46
  refine ir_l (pc' := 1) rfl rfl rfl rfl rfl rfl ?_
  refine ir_cSI (pc' := 4) rfl rfl rfl rfl rfl rfl (Nat.le_of_ble_eq_true rfl) (sf_reach5 L ys (d + 3) s0 hT0 a1 a1k ) (fun z49 s50 hr => ?_)
  obtain ⟨hT50, hG50, z49l, z49h⟩ := hr
  have hF50 := fr_trans hF0 hG50 (by decide)
  refine ir_ineg (pc' := 5) rfl rfl (by omega) (by omega) ?_
  refine ir_s (pc' := 7) rfl rfl rfl rfl rfl rfl ?_
  refine ir_l (pc' := 8) rfl rfl rfl rfl rfl rfl ?_
  refine ir_l (pc' := 9) rfl rfl rfl rfl rfl rfl ?_
  refine ir_l (pc' := 11) rfl rfl rfl rfl rfl rfl ?_
  refine ir_cVV (pc' := 14) rfl rfl rfl rfl rfl (Nat.le_of_ble_eq_true rfl) oo_X5_begin (gG_at tsk_15) (sf_begin5 L ys d s50 hT50 a1 a1k ((-z49)) (by omega) (by omega) ) (fun s52 hr => ?_)
  obtain ⟨hT52, hG52⟩ := hr
  have hF52 := fr_trans hF50 hG52 (by decide)
  refine ir_l (pc' := 15) rfl rfl rfl rfl rfl rfl ?_
  refine ir_s (pc' := 17) rfl rfl rfl rfl rfl rfl ?_
  refine ir_k (pc' := 18) (v := (0, 0)) rfl rfl rfl (fun _ => rfl) ?_
  refine ir_s (pc' := 20) rfl rfl rfl rfl rfl rfl ?_
  refine ir_w [(0, (2, ((267 : Nat) : Int))), (2, (2, ((310 : Nat) : Int))), (4, (0, (-z49))), (5, (0, x3)), (6, (0, 0))] ⟨rfl, rfl, rfl, rfl, rfl, trivial⟩ ?_
  exact J20 _ ((-z49)) (by omega) (by omega) (x3) (by omega) (by omega) (0) (by omega) (by omega) s52 hT52 hF52 (Int.self_le_toNat _)
theorem sf_solve3 (L : Nat) (ys : Nat → Int32) (d : Nat) (s0 : im_S) (hT0 : tI s0) (x1 : Int) (x1l : 0 ≤ x1) (x1h : x1 ≤ 79) : icV gG rm_P L ys (d + 7) 145 [(2, ((83 : Nat) : Int)), (0, x1)] s0 (fun s => tI s ∧ fr [(4, 0), (10, 3), (10, 13), (10, 14), (10, 15), (10, 16), (11, 2), (15, 4), (15, 5), (16, 1), (16, 2), (19, 1), (19, 2), (23, 0), (23, 1), (23, 2), (23, 3), (23, 4), (23, 5), (23, 7), (23, 8), (23, 9), (25, 1), (25, 2)] s0 s) := by
  refine ic_startM (M := rm_p_X3_solve) om_X3_solve (Nat.le_of_ble_eq_true rfl) ?_
  refine ir_w [(0, (2, ((83 : Nat) : Int))), (1, (0, x1))] ⟨rfl, rfl, trivial⟩ ?_
  have hF0 := fr_refl [(4, 0), (10, 3), (10, 13), (10, 14), (10, 15), (10, 16), (11, 2), (15, 4), (15, 5), (16, 1), (16, 2), (19, 1), (19, 2), (23, 0), (23, 1), (23, 2), (23, 3), (23, 4), (23, 5), (23, 7), (23, 8), (23, 9), (25, 1), (25, 2)] s0
  have J155 : ∀ n : Nat, ∀ (q155_l3 : Int) (q155_l3l : 0 ≤ q155_l3) (q155_l3h : q155_l3 ≤ 80) (q155_l4 : Int) (q155_l4l : 0 ≤ q155_l4) (q155_l4h : q155_l4 ≤ 80) (s_155 : im_S) (hT_155 : tI s_155) (hF_155 : fr [(4, 0), (10, 3), (10, 13), (10, 14), (10, 15), (10, 16), (11, 2), (15, 4), (15, 5), (16, 1), (16, 2), (19, 1), (19, 2), (23, 0), (23, 1), (23, 2), (23, 3), (23, 4), (23, 5), (23, 7), (23, 8), (23, 9), (25, 1), (25, 2)] s0 s_155) (w155_83_0e : s_155.1 83 0 = ((84 : Nat) : Int)) (w155_83_1e : s_155.1 83 1 = ((267 : Nat) : Int)) (w155_83_2e : s_155.1 83 2 = ((310 : Nat) : Int)) (w155_83_3 : Int) (w155_83_3l : 0 ≤ w155_83_3) (w155_83_3h : w155_83_3 ≤ 80) (w155_83_3e : s_155.1 83 3 = w155_83_3) (w155_84_0e : s_155.1 84 0 = ((85 : Nat) : Int)), (80 + 1 - q155_l4) ≤ (n : Int) → ir gG rm_P L ys (d + 6) rm_p_X3_solve (155, [(0, (2, ((83 : Nat) : Int))), (1, (0, x1)), (3, (0, q155_l3)), (4, (0, q155_l4))], [], s_155) (fun r : im_Re => r.1 = none ∧ (tI r.2 ∧ fr [(4, 0), (10, 3), (10, 13), (10, 14), (10, 15), (10, 16), (11, 2), (15, 4), (15, 5), (16, 1), (16, 2), (19, 1), (19, 2), (23, 0), (23, 1), (23, 2), (23, 3), (23, 4), (23, 5), (23, 7), (23, 8), (23, 9), (25, 1), (25, 2)] s0 r.2)) := by
    intro n
    induction n with
    | zero => intro q155_l3 q155_l3l q155_l3h q155_l4 q155_l4l q155_l4h s_155 hT_155 hF_155 w155_83_0e w155_83_1e w155_83_2e w155_83_3 w155_83_3l w155_83_3h w155_83_3e w155_84_0e hr; exfalso; omega
    | succ n ih155 =>
      intro q155_l3 q155_l3l q155_l3h q155_l4 q155_l4l q155_l4h s_155 hT_155 hF_155 w155_83_0e w155_83_1e w155_83_2e w155_83_3 w155_83_3l w155_83_3h w155_83_3e w155_84_0e hr
      have J189 : ∀ (f189_4h : q155_l4 ≤ 79) (s_189 : im_S) (hT_189 : tI s_189) (hF_189 : fr [(4, 0), (10, 3), (10, 13), (10, 14), (10, 15), (10, 16), (11, 2), (15, 4), (15, 5), (16, 1), (16, 2), (19, 1), (19, 2), (23, 0), (23, 1), (23, 2), (23, 3), (23, 4), (23, 5), (23, 7), (23, 8), (23, 9), (25, 1), (25, 2)] s0 s_189) (w189_83_0e : s_189.1 83 0 = ((84 : Nat) : Int)) (w189_83_1e : s_189.1 83 1 = ((267 : Nat) : Int)) (w189_83_2e : s_189.1 83 2 = ((310 : Nat) : Int)) (w189_83_3 : Int) (w189_83_3l : 1 ≤ w189_83_3) (w189_83_3h : w189_83_3 ≤ 80) (w189_83_3e : s_189.1 83 3 = w189_83_3) (w189_84_0e : s_189.1 84 0 = ((85 : Nat) : Int)), ir gG rm_P L ys (d + 6) rm_p_X3_solve (189, [(0, (2, ((83 : Nat) : Int))), (1, (0, x1)), (3, (0, q155_l3)), (4, (0, q155_l4))], [], s_189) (fun r : im_Re => r.1 = none ∧ (tI r.2 ∧ fr [(4, 0), (10, 3), (10, 13), (10, 14), (10, 15), (10, 16), (11, 2), (15, 4), (15, 5), (16, 1), (16, 2), (19, 1), (19, 2), (23, 0), (23, 1), (23, 2), (23, 3), (23, 4), (23, 5), (23, 7), (23, 8), (23, 9), (25, 1), (25, 2)] s0 r.2)) := by
        intro f189_4h s_189 hT_189 hF_189 w189_83_0e w189_83_1e w189_83_2e w189_83_3 w189_83_3l w189_83_3h w189_83_3e w189_84_0e
        refine ir_inc (pc' := 192) rfl rfl rfl rfl rfl (by omega) (by omega) ?_
        refine ir_goto (pc' := 155) rfl rfl ?_
        refine ir_w [(0, (2, ((83 : Nat) : Int))), (1, (0, x1)), (3, (0, q155_l3)), (4, (0, (q155_l4 + 1)))] ⟨rfl, rfl, rfl, rfl, trivial⟩ ?_
        exact ih155 (q155_l3) (by omega) (by omega) ((q155_l4 + 1)) (by omega) (by omega) s_189 hT_189 hF_189 w189_83_0e w189_83_1e w189_83_2e (w189_83_3) (by omega) (by omega) w189_83_3e w189_84_0e (by omega)
      refine ir_l (pc' := 157) rfl rfl rfl rfl rfl rfl ?_
      refine ir_l (pc' := 158) rfl rfl rfl rfl rfl rfl ?_
      refine ir_getI (pc' := 161) rfl rfl rfl (gG_at tsk_10) rfl (by decide) (by decide) w155_83_3e (by omega) (by omega) ?_
      refine ir_c_ge (pt := 195) (pc' := 164) rfl rfl rfl (fun c1 => ?_) (fun c1 => ?_)
      · refine ir_l (pc' := 196) rfl rfl rfl rfl rfl rfl ?_
        refine ir_l (pc' := 197) rfl rfl rfl rfl rfl rfl ?_
        refine ir_cVV (pc' := 200) rfl rfl rfl rfl rfl (Nat.le_of_ble_eq_true rfl) oo_X3_setSigns (gG_at tsk_10) (sf_setSigns3 L ys (d + 5) s_155 hT_155 (q155_l3) (by omega) (by omega) ) (fun s3 hr => ?_)
        obtain ⟨hT3, hG3⟩ := hr
        have hF3 := fr_trans hF_155 hG3 (by decide)
        have e4 : s3.1 83 0 = ((84 : Nat) : Int) := (hG3.1 _ _ tsk_10 0 (by decide)).trans w155_83_0e
        have e5 : s3.1 84 0 = ((85 : Nat) : Int) := (hG3.1 _ _ tsk_11 0 (by decide)).trans w155_84_0e
        have e6 : s3.1 83 1 = ((267 : Nat) : Int) := (hG3.1 _ _ tsk_10 1 (by decide)).trans w155_83_1e
        have e7 : s3.1 83 2 = ((310 : Nat) : Int) := (hG3.1 _ _ tsk_10 2 (by decide)).trans w155_83_2e
        have e8 : s3.1 83 3 = w155_83_3 := (hG3.1 _ _ tsk_10 3 (by decide)).trans w155_83_3e
        exact ir_vret rfl rfl ⟨rfl, hT3, hF3⟩
      · refine ir_l (pc' := 165) rfl rfl rfl rfl rfl rfl ?_
        refine ir_getR (pc' := 168) rfl rfl rfl (gG_at tsk_10) rfl w155_83_2e ?_
        refine ir_l (pc' := 170) rfl rfl rfl rfl rfl rfl ?_
        refine ir_taa (pc' := 171) (k2 := 23) rfl rfl te_24 (by decide) tsk_24 hT_155 (by omega) (by omega) (fun b9 b9k => ?_)
        refine ir_tgi (pc' := 174) rfl rfl rfl tf_23_1 b9k hT_155 (fun z10 z10e z10l z10h => ?_)
        refine ir_z_ne (pt := 189) (pc' := 177) rfl rfl rfl (fun c11 => ?_) (fun c11 => ?_)
        · refine ir_w [(0, (2, ((83 : Nat) : Int))), (1, (0, x1)), (3, (0, q155_l3)), (4, (0, q155_l4))] ⟨rfl, rfl, rfl, rfl, trivial⟩ ?_
          exact J189 (by omega) s_155 hT_155 hF_155 w155_83_0e w155_83_1e w155_83_2e (w155_83_3) (by omega) (by omega) w155_83_3e w155_84_0e
        · refine ir_l (pc' := 178) rfl rfl rfl rfl rfl rfl ?_
          refine ir_l (pc' := 179) rfl rfl rfl rfl rfl rfl ?_
          refine ir_getR (pc' := 182) rfl rfl rfl (gG_at tsk_10) rfl w155_83_2e ?_
          refine ir_l (pc' := 184) rfl rfl rfl rfl rfl rfl ?_
          refine ir_taa (pc' := 185) (k2 := 23) rfl rfl te_24 (by decide) tsk_24 hT_155 (by omega) (by omega) (fun b12 b12k => ?_)
          refine ir_l (pc' := 186) rfl rfl rfl rfl rfl rfl ?_
          refine ir_cVV (pc' := 189) rfl rfl rfl rfl rfl (Nat.le_of_ble_eq_true rfl) oo_X3_settle (gG_at tsk_10) (sf_settle3 L ys d s_155 hT_155 b12 b12k (x1) (by omega) (by omega) ) (fun s14 hr => ?_)
          obtain ⟨hT14, hG14⟩ := hr
          have hF14 := fr_trans hF_155 hG14 (by decide)
          have e15 : s14.1 83 0 = ((84 : Nat) : Int) := (hG14.1 _ _ tsk_10 0 (by decide)).trans w155_83_0e
          have e16 : s14.1 84 0 = ((85 : Nat) : Int) := (hG14.1 _ _ tsk_11 0 (by decide)).trans w155_84_0e
          have e17 : s14.1 83 1 = ((267 : Nat) : Int) := (hG14.1 _ _ tsk_10 1 (by decide)).trans w155_83_1e
          have e18 : s14.1 83 2 = ((310 : Nat) : Int) := (hG14.1 _ _ tsk_10 2 (by decide)).trans w155_83_2e
          have e19 : s14.1 83 3 = w155_83_3 := (hG14.1 _ _ tsk_10 3 (by decide)).trans w155_83_3e
          refine ir_w [(0, (2, ((83 : Nat) : Int))), (1, (0, x1)), (3, (0, q155_l3)), (4, (0, q155_l4))] ⟨rfl, rfl, rfl, rfl, trivial⟩ ?_
          exact J189 (by omega) s14 hT14 hF14 e15 e17 e18 (w155_83_3) (by omega) (by omega) e19 e16
  have J101 : ∀ n : Nat, ∀ (q101_l3 : Int) (q101_l3l : 0 ≤ q101_l3) (q101_l3h : q101_l3 ≤ 80) (q101_l4 : Int) (q101_l4l : 0 ≤ q101_l4) (q101_l4h : q101_l4 ≤ 80) (s_101 : im_S) (hT_101 : tI s_101) (hF_101 : fr [(4, 0), (10, 3), (10, 13), (10, 14), (10, 15), (10, 16), (11, 2), (15, 4), (15, 5), (16, 1), (16, 2), (19, 1), (19, 2), (23, 0), (23, 1), (23, 2), (23, 3), (23, 4), (23, 5), (23, 7), (23, 8), (23, 9), (25, 1), (25, 2)] s0 s_101) (w101_83_0e : s_101.1 83 0 = ((84 : Nat) : Int)) (w101_83_1e : s_101.1 83 1 = ((267 : Nat) : Int)) (w101_83_2e : s_101.1 83 2 = ((310 : Nat) : Int)) (w101_83_3 : Int) (w101_83_3l : 0 ≤ w101_83_3) (w101_83_3h : w101_83_3 ≤ 80) (w101_83_3e : s_101.1 83 3 = w101_83_3) (w101_84_0e : s_101.1 84 0 = ((85 : Nat) : Int)), (80 + 1 - q101_l4) ≤ (n : Int) → ir gG rm_P L ys (d + 6) rm_p_X3_solve (101, [(0, (2, ((83 : Nat) : Int))), (1, (0, x1)), (3, (0, q101_l3)), (4, (0, q101_l4))], [], s_101) (fun r : im_Re => r.1 = none ∧ (tI r.2 ∧ fr [(4, 0), (10, 3), (10, 13), (10, 14), (10, 15), (10, 16), (11, 2), (15, 4), (15, 5), (16, 1), (16, 2), (19, 1), (19, 2), (23, 0), (23, 1), (23, 2), (23, 3), (23, 4), (23, 5), (23, 7), (23, 8), (23, 9), (25, 1), (25, 2)] s0 r.2)) := by
    intro n
    induction n with
    | zero => intro q101_l3 q101_l3l q101_l3h q101_l4 q101_l4l q101_l4h s_101 hT_101 hF_101 w101_83_0e w101_83_1e w101_83_2e w101_83_3 w101_83_3l w101_83_3h w101_83_3e w101_84_0e hr; exfalso; omega
    | succ n ih101 =>
      intro q101_l3 q101_l3l q101_l3h q101_l4 q101_l4l q101_l4h s_101 hT_101 hF_101 w101_83_0e w101_83_1e w101_83_2e w101_83_3 w101_83_3l w101_83_3h w101_83_3e w101_84_0e hr
      have J146 : ∀ (f146_4h : q101_l4 ≤ 79) (s_146 : im_S) (hT_146 : tI s_146) (hF_146 : fr [(4, 0), (10, 3), (10, 13), (10, 14), (10, 15), (10, 16), (11, 2), (15, 4), (15, 5), (16, 1), (16, 2), (19, 1), (19, 2), (23, 0), (23, 1), (23, 2), (23, 3), (23, 4), (23, 5), (23, 7), (23, 8), (23, 9), (25, 1), (25, 2)] s0 s_146) (w146_83_0e : s_146.1 83 0 = ((84 : Nat) : Int)) (w146_83_1e : s_146.1 83 1 = ((267 : Nat) : Int)) (w146_83_2e : s_146.1 83 2 = ((310 : Nat) : Int)) (w146_83_3 : Int) (w146_83_3l : 1 ≤ w146_83_3) (w146_83_3h : w146_83_3 ≤ 80) (w146_83_3e : s_146.1 83 3 = w146_83_3) (w146_84_0e : s_146.1 84 0 = ((85 : Nat) : Int)), ir gG rm_P L ys (d + 6) rm_p_X3_solve (146, [(0, (2, ((83 : Nat) : Int))), (1, (0, x1)), (3, (0, q101_l3)), (4, (0, q101_l4))], [], s_146) (fun r : im_Re => r.1 = none ∧ (tI r.2 ∧ fr [(4, 0), (10, 3), (10, 13), (10, 14), (10, 15), (10, 16), (11, 2), (15, 4), (15, 5), (16, 1), (16, 2), (19, 1), (19, 2), (23, 0), (23, 1), (23, 2), (23, 3), (23, 4), (23, 5), (23, 7), (23, 8), (23, 9), (25, 1), (25, 2)] s0 r.2)) := by
        intro f146_4h s_146 hT_146 hF_146 w146_83_0e w146_83_1e w146_83_2e w146_83_3 w146_83_3l w146_83_3h w146_83_3e w146_84_0e
        refine ir_inc (pc' := 149) rfl rfl rfl rfl rfl (by omega) (by omega) ?_
        refine ir_goto (pc' := 101) rfl rfl ?_
        refine ir_w [(0, (2, ((83 : Nat) : Int))), (1, (0, x1)), (3, (0, q101_l3)), (4, (0, (q101_l4 + 1)))] ⟨rfl, rfl, rfl, rfl, trivial⟩ ?_
        exact ih101 (q101_l3) (by omega) (by omega) ((q101_l4 + 1)) (by omega) (by omega) s_146 hT_146 hF_146 w146_83_0e w146_83_1e w146_83_2e (w146_83_3) (by omega) (by omega) w146_83_3e w146_84_0e (by omega)
      refine ir_l (pc' := 103) rfl rfl rfl rfl rfl rfl ?_
      refine ir_l (pc' := 104) rfl rfl rfl rfl rfl rfl ?_
      refine ir_getI (pc' := 107) rfl rfl rfl (gG_at tsk_10) rfl (by decide) (by decide) w101_83_3e (by omega) (by omega) ?_
      refine ir_c_ge (pt := 152) (pc' := 110) rfl rfl rfl (fun c20 => ?_) (fun c20 => ?_)
      · refine ir_l (pc' := 153) rfl rfl rfl rfl rfl rfl ?_
        refine ir_s (pc' := 155) rfl rfl rfl rfl rfl rfl ?_
        refine ir_w [(0, (2, ((83 : Nat) : Int))), (1, (0, x1)), (3, (0, q101_l3)), (4, (0, q101_l3))] ⟨rfl, rfl, rfl, rfl, trivial⟩ ?_
        exact J155 _ (q101_l3) (by omega) (by omega) (q101_l3) (by omega) (by omega) s_101 hT_101 hF_101 w101_83_0e w101_83_1e w101_83_2e (w101_83_3) (by omega) (by omega) w101_83_3e w101_84_0e (Int.self_le_toNat _)
      · refine ir_l (pc' := 111) rfl rfl rfl rfl rfl rfl ?_
        refine ir_getR (pc' := 114) rfl rfl rfl (gG_at tsk_10) rfl w101_83_2e ?_
        refine ir_l (pc' := 116) rfl rfl rfl rfl rfl rfl ?_
        refine ir_taa (pc' := 117) (k2 := 23) rfl rfl te_24 (by decide) tsk_24 hT_101 (by omega) (by omega) (fun b21 b21k => ?_)
        refine ir_tgi (pc' := 120) rfl rfl rfl tf_23_1 b21k hT_101 (fun z22 z22e z22l z22h => ?_)
        refine ir_z_eq (pt := 146) (pc' := 123) rfl rfl rfl (fun c23 => ?_) (fun c23 => ?_)
        · refine ir_w [(0, (2, ((83 : Nat) : Int))), (1, (0, x1)), (3, (0, q101_l3)), (4, (0, q101_l4))] ⟨rfl, rfl, rfl, rfl, trivial⟩ ?_
          exact J146 (by omega) s_101 hT_101 hF_101 w101_83_0e w101_83_1e w101_83_2e (w101_83_3) (by omega) (by omega) w101_83_3e w101_84_0e
        · refine ir_l (pc' := 124) rfl rfl rfl rfl rfl rfl ?_
          refine ir_l (pc' := 125) rfl rfl rfl rfl rfl rfl ?_
          refine ir_getR (pc' := 128) rfl rfl rfl (gG_at tsk_10) rfl w101_83_2e ?_
          refine ir_l (pc' := 130) rfl rfl rfl rfl rfl rfl ?_
          refine ir_taa (pc' := 131) (k2 := 23) rfl rfl te_24 (by decide) tsk_24 hT_101 (by omega) (by omega) (fun b24 b24k => ?_)
          refine ir_cVV (pc' := 134) rfl rfl rfl rfl rfl (Nat.le_of_ble_eq_true rfl) oo_X3_readBinary (gG_at tsk_10) (sf_readBinary3 L ys (d + 3) s_101 hT_101 b24 b24k ) (fun s26 hr => ?_)
          obtain ⟨hT26, hG26⟩ := hr
          have hF26 := fr_trans hF_101 hG26 (by decide)
          have e27 : s26.1 83 0 = ((84 : Nat) : Int) := (hG26.1 _ _ tsk_10 0 (by decide)).trans w101_83_0e
          have e28 : s26.1 84 0 = ((85 : Nat) : Int) := (hG26.1 _ _ tsk_11 0 (by decide)).trans w101_84_0e
          have e29 : s26.1 83 1 = ((267 : Nat) : Int) := (hG26.1 _ _ tsk_10 1 (by decide)).trans w101_83_1e
          have e30 : s26.1 83 2 = ((310 : Nat) : Int) := (hG26.1 _ _ tsk_10 2 (by decide)).trans w101_83_2e
          have e31 : s26.1 83 3 = w101_83_3 := (hG26.1 _ _ tsk_10 3 (by decide)).trans w101_83_3e
          refine ir_l (pc' := 135) rfl rfl rfl rfl rfl rfl ?_
          refine ir_l (pc' := 136) rfl rfl rfl rfl rfl rfl ?_
          refine ir_getR (pc' := 139) rfl rfl rfl (gG_at tsk_10) rfl e30 ?_
          refine ir_l (pc' := 141) rfl rfl rfl rfl rfl rfl ?_
          refine ir_taa (pc' := 142) (k2 := 23) rfl rfl te_24 (by decide) tsk_24 hT26 (by omega) (by omega) (fun b32 b32k => ?_)
          refine ir_l (pc' := 143) rfl rfl rfl rfl rfl rfl ?_
          refine ir_cVV (pc' := 146) rfl rfl rfl rfl rfl (Nat.le_of_ble_eq_true rfl) oo_X3_giveOwnPiece (gG_at tsk_10) (sf_giveOwnPiece3 L ys (d + 2) s26 hT26 b32 b32k (x1) (by omega) (by omega) ) (fun s34 hr => ?_)
          obtain ⟨hT34, hG34⟩ := hr
          have hF34 := fr_trans hF26 hG34 (by decide)
          have e35 : s34.1 83 0 = ((84 : Nat) : Int) := (hG34.1 _ _ tsk_10 0 (by decide)).trans e27
          have e36 : s34.1 84 0 = ((85 : Nat) : Int) := (hG34.1 _ _ tsk_11 0 (by decide)).trans e28
          have e37 : s34.1 83 1 = ((267 : Nat) : Int) := (hG34.1 _ _ tsk_10 1 (by decide)).trans e29
          have e38 : s34.1 83 2 = ((310 : Nat) : Int) := (hG34.1 _ _ tsk_10 2 (by decide)).trans e30
          have e39 : s34.1 83 3 = w101_83_3 := (hG34.1 _ _ tsk_10 3 (by decide)).trans e31
          refine ir_w [(0, (2, ((83 : Nat) : Int))), (1, (0, x1)), (3, (0, q101_l3)), (4, (0, q101_l4))] ⟨rfl, rfl, rfl, rfl, trivial⟩ ?_
          exact J146 (by omega) s34 hT34 hF34 e35 e37 e38 (w101_83_3) (by omega) (by omega) e39 e36
  have J81 : ∀ (q81_l2 : Nat) (q81_l2k : gK[q81_l2]? = some 4) (q81_l3 : Int) (q81_l3l : 0 ≤ q81_l3) (q81_l3h : q81_l3 ≤ 80) (s_81 : im_S) (hT_81 : tI s_81) (hF_81 : fr [(4, 0), (10, 3), (10, 13), (10, 14), (10, 15), (10, 16), (11, 2), (15, 4), (15, 5), (16, 1), (16, 2), (19, 1), (19, 2), (23, 0), (23, 1), (23, 2), (23, 3), (23, 4), (23, 5), (23, 7), (23, 8), (23, 9), (25, 1), (25, 2)] s0 s_81) (w81_83_0e : s_81.1 83 0 = ((84 : Nat) : Int)) (w81_83_3 : Int) (w81_83_3l : 0 ≤ w81_83_3) (w81_83_3h : w81_83_3 ≤ 80) (w81_83_3e : s_81.1 83 3 = w81_83_3) (w81_84_0e : s_81.1 84 0 = ((85 : Nat) : Int)), ir gG rm_P L ys (d + 6) rm_p_X3_solve (81, [(0, (2, ((83 : Nat) : Int))), (1, (0, x1)), (2, (2, ((q81_l2 : Nat) : Int))), (3, (0, q81_l3))], [], s_81) (fun r : im_Re => r.1 = none ∧ (tI r.2 ∧ fr [(4, 0), (10, 3), (10, 13), (10, 14), (10, 15), (10, 16), (11, 2), (15, 4), (15, 5), (16, 1), (16, 2), (19, 1), (19, 2), (23, 0), (23, 1), (23, 2), (23, 3), (23, 4), (23, 5), (23, 7), (23, 8), (23, 9), (25, 1), (25, 2)] s0 r.2)) := by
    intro q81_l2 q81_l2k q81_l3 q81_l3l q81_l3h s_81 hT_81 hF_81 w81_83_0e w81_83_3 w81_83_3l w81_83_3h w81_83_3e w81_84_0e
    refine ir_l (pc' := 82) rfl rfl rfl rfl rfl rfl ?_
    refine ir_l (pc' := 83) rfl rfl rfl rfl rfl rfl ?_
    refine ir_tgr (pc' := 86) rfl rfl rfl tf_10_1 tsk_10 hT_81 (fun b40 b40e b40k => ?_)
    obtain rfl := tsg_15 b40k
    refine ir_l (pc' := 87) rfl rfl rfl rfl rfl rfl ?_
    refine ir_l (pc' := 88) rfl rfl rfl rfl rfl rfl ?_
    refine ir_tgr (pc' := 91) rfl rfl rfl tf_10_2 tsk_10 hT_81 (fun b41 b41e b41k => ?_)
    obtain rfl := tsg_24 b41k
    refine ir_l (pc' := 92) rfl rfl rfl rfl rfl rfl ?_
    refine ir_cVI (pc' := 95) rfl rfl rfl rfl rfl (Nat.le_of_ble_eq_true rfl) oo_X5_part (gG_at tsk_15) (sf_part5 L ys d s_81 hT_81 q81_l2 q81_l2k (q81_l3) (by omega) (by omega) ) (fun z42 s43 hr => ?_)
    obtain ⟨hT43, hG43, z42l, z42h⟩ := hr
    have hF43 := fr_trans hF_81 hG43 (by decide)
    have e44 : s43.1 83 0 = ((84 : Nat) : Int) := (hG43.1 _ _ tsk_10 0 (by decide)).trans w81_83_0e
    have e45 : s43.1 84 0 = ((85 : Nat) : Int) := (hG43.1 _ _ tsk_11 0 (by decide)).trans w81_84_0e
    have e46 : s43.1 83 3 = w81_83_3 := (hG43.1 _ _ tsk_10 3 (by decide)).trans w81_83_3e
    have e47 : s43.1 83 1 = ((267 : Nat) : Int) := (hG43.1 _ _ tsk_10 1 (by decide)).trans b40e
    have e48 : s43.1 83 2 = ((310 : Nat) : Int) := (hG43.1 _ _ tsk_10 2 (by decide)).trans b41e
    refine ir_tpi (pc' := 98) rfl rfl rfl tf_10_3 rfl tsk_10 hT43 rfl (by omega) (by omega) (fun s49 hT49 e49 g49 r49 => ?_)
    have hF49 := fr_put (k := 10) hF43 (by decide) tsk_10 g49 r49
    have e50 : s49.1 83 0 = ((84 : Nat) : Int) := (g49 83 0 (fun z => absurd z.2 (by decide))).trans e44
    have e51 : s49.1 84 0 = ((85 : Nat) : Int) := (g49 84 0 (fun z => absurd z.2 (by decide))).trans e45
    have e52 : s49.1 83 1 = ((267 : Nat) : Int) := (g49 83 1 (fun z => absurd z.2 (by decide))).trans e47
    have e53 : s49.1 83 2 = ((310 : Nat) : Int) := (g49 83 2 (fun z => absurd z.2 (by decide))).trans e48
    refine ir_l (pc' := 99) rfl rfl rfl rfl rfl rfl ?_
    refine ir_s (pc' := 101) rfl rfl rfl rfl rfl rfl ?_
    refine ir_w [(0, (2, ((83 : Nat) : Int))), (1, (0, x1)), (3, (0, q81_l3)), (4, (0, q81_l3))] ⟨rfl, rfl, rfl, rfl, trivial⟩ ?_
    exact J101 _ (q81_l3) (by omega) (by omega) (q81_l3) (by omega) (by omega) s49 hT49 hF49 e50 e52 e53 (z42) (by omega) (by omega) e49 e51 (Int.self_le_toNat _)
  refine ir_l (pc' := 1) rfl rfl rfl rfl rfl rfl ?_
  refine ir_tgr (pc' := 4) rfl rfl rfl tf_10_0 tsk_10 hT0 (fun b54 b54e b54k => ?_)
  obtain rfl := tsg_11 b54k
  refine ir_tgr (pc' := 7) rfl rfl rfl tf_11_0 tsk_11 hT0 (fun b55 b55e b55k => ?_)
  obtain rfl := tsg_12 b55k
  refine ir_l (pc' := 8) rfl rfl rfl rfl rfl rfl ?_
  refine ir_taa (pc' := 9) (k2 := 4) rfl rfl te_12 (by decide) tsk_12 hT0 (by omega) (by omega) (fun b56 b56k => ?_)
  refine ir_s (pc' := 10) rfl rfl rfl rfl rfl rfl ?_
  refine ir_l (pc' := 11) rfl rfl rfl rfl rfl rfl ?_
  refine ir_tgi (pc' := 14) rfl rfl rfl tf_10_3 tsk_10 hT0 (fun z57 z57e z57l z57h => ?_)
  refine ir_s (pc' := 15) rfl rfl rfl rfl rfl rfl ?_
  refine ir_l (pc' := 16) rfl rfl rfl rfl rfl rfl ?_
  refine ir_tgi (pc' := 19) rfl rfl rfl tf_4_0 b56k hT0 (fun z58 z58e z58l z58h => ?_)
  refine ir_k (pc' := 20) (v := (0, 1)) rfl rfl rfl (fun _ => rfl) ?_
  refine ir_c_ne (pt := 81) (pc' := 23) rfl rfl rfl (fun c59 => ?_) (fun c59 => ?_)
  · refine ir_w [(0, (2, ((83 : Nat) : Int))), (1, (0, x1)), (2, (2, ((b56 : Nat) : Int))), (3, (0, z57))] ⟨rfl, rfl, rfl, rfl, trivial⟩ ?_
    exact J81 b56 b56k (z57) (by omega) (by omega) s0 hT0 hF0 b54e (z57) (by omega) (by omega) z57e b55e
  · refine ir_l (pc' := 24) rfl rfl rfl rfl rfl rfl ?_
    refine ir_getI (pc' := 27) rfl rfl rfl (gG_at tsk_10) rfl (by decide) (by decide) z57e (by omega) (by omega) ?_
    refine ir_k (pc' := 29) (v := (0, 80)) rfl rfl rfl (fun _ => rfl) ?_
    refine ir_c_ge (pt := 81) (pc' := 32) rfl rfl rfl (fun c60 => ?_) (fun c60 => ?_)
    · refine ir_w [(0, (2, ((83 : Nat) : Int))), (1, (0, x1)), (2, (2, ((b56 : Nat) : Int))), (3, (0, z57))] ⟨rfl, rfl, rfl, rfl, trivial⟩ ?_
      exact J81 b56 b56k (z57) (by omega) (by omega) s0 hT0 hF0 b54e (z57) (by omega) (by omega) z57e b55e
    · refine ir_l (pc' := 33) rfl rfl rfl rfl rfl rfl ?_
      refine ir_tgr (pc' := 36) rfl rfl rfl tf_10_2 tsk_10 hT0 (fun b61 b61e b61k => ?_)
      obtain rfl := tsg_24 b61k
      refine ir_l (pc' := 37) rfl rfl rfl rfl rfl rfl ?_
      refine ir_getI (pc' := 40) rfl rfl rfl (gG_at tsk_10) rfl (by decide) (by decide) z57e (by omega) (by omega) ?_
      refine ir_taa (pc' := 41) (k2 := 23) rfl rfl te_24 (by decide) tsk_24 hT0 (by omega) (by omega) (fun b62 b62k => ?_)
      refine ir_l (pc' := 42) rfl rfl rfl rfl rfl rfl ?_
      refine ir_tpi (pc' := 45) rfl rfl rfl tf_23_0 rfl b62k hT0 rfl (by omega) (by omega) (fun s63 hT63 e63 g63 r63 => ?_)
      have hF63 := fr_put (k := 23) hF0 (by decide) b62k g63 r63
      have e64 : s63.1 83 3 = z57 := (g63 83 3 (fun z => absurd z.2 (by decide))).trans z57e
      have e65 : s63.1 83 2 = ((310 : Nat) : Int) := (g63 83 2 (fun z => absurd z.2 (by decide))).trans b61e
      refine ir_l (pc' := 46) rfl rfl rfl rfl rfl rfl ?_
      refine ir_getR (pc' := 49) rfl rfl rfl (gG_at tsk_10) rfl e65 ?_
      refine ir_l (pc' := 50) rfl rfl rfl rfl rfl rfl ?_
      refine ir_getI (pc' := 53) rfl rfl rfl (gG_at tsk_10) rfl (by decide) (by decide) e64 (by omega) (by omega) ?_
      refine ir_taa (pc' := 54) (k2 := 23) rfl rfl te_24 (by decide) tsk_24 hT63 (by omega) (by omega) (fun b66 b66k => ?_)
      refine ir_l (pc' := 55) rfl rfl rfl rfl rfl rfl ?_
      refine ir_tgr (pc' := 58) rfl rfl rfl tf_4_1 b56k hT63 (fun b67 b67e b67k => ?_)
      refine ir_k (pc' := 59) (v := (0, 0)) rfl rfl rfl (fun _ => rfl) ?_
      refine ir_tla (pc' := 60) rfl rfl te_6 (by decide) b67k hT63 (by omega) (by omega) (fun z68 z68e z68l z68h => ?_)
      clear z68e
      refine ir_lnegA (pc' := 61) rfl rfl (fun z69 z69l z69h => ?_)
      refine ir_l (pc' := 62) rfl rfl rfl rfl rfl rfl ?_
      refine ir_getR (pc' := 65) rfl rfl rfl (gG_at b56k) rfl b67e ?_
      refine ir_k (pc' := 66) (v := (0, 1)) rfl rfl rfl (fun _ => rfl) ?_
      refine ir_tla (pc' := 67) rfl rfl te_6 (by decide) b67k hT63 (by omega) (by omega) (fun z70 z70e z70l z70h => ?_)
      clear z70e
      refine ir_cVV (pc' := 70) rfl rfl rfl rfl rfl (Nat.le_of_ble_eq_true rfl) oo_X8_setFraction (gG_at b66k) (sf_setFraction8 L ys (d + 4) s63 hT63 b66 b66k (z69) (by omega) (by omega) (z70) (by omega) (by omega) ) (fun s72 hr => ?_)
      obtain ⟨hT72, hG72⟩ := hr
      have hF72 := fr_trans hF63 hG72 (by decide)
      have e73 : s72.1 83 3 = z57 := (hG72.1 _ _ tsk_10 3 (by decide)).trans e64
      have e74 : s72.1 83 2 = ((310 : Nat) : Int) := (hG72.1 _ _ tsk_10 2 (by decide)).trans e65
      have e75 : s72.1 b62 0 = x1 := (hG72.1 _ _ b62k 0 (by decide)).trans e63
      refine ir_l (pc' := 71) rfl rfl rfl rfl rfl rfl ?_
      refine ir_x (pc' := 72) rfl rfl rfl (fun _ => rfl) ?_
      refine ir_getI (pc' := 75) rfl rfl rfl (gG_at tsk_10) rfl (by decide) (by decide) e73 (by omega) (by omega) ?_
      refine ir_k (pc' := 76) (v := (0, 1)) rfl rfl rfl (fun _ => rfl) ?_
      refine ir_add (pc' := 77) rfl rfl (by omega) (by omega) ?_
      refine ir_tpi (pc' := 80) rfl rfl rfl tf_10_3 rfl tsk_10 hT72 rfl (by omega) (by omega) (fun s76 hT76 e76 g76 r76 => ?_)
      have hF76 := fr_put (k := 10) hF72 (by decide) tsk_10 g76 r76
      have e77 : s76.1 83 2 = ((310 : Nat) : Int) := (g76 83 2 (fun z => absurd z.2 (by decide))).trans e74
      have e78 : s76.1 b62 0 = x1 := (g76 b62 0 (fun z => absurd z.2 (by decide))).trans e75
      exact ir_vret rfl rfl ⟨rfl, hT76, hF76⟩
theorem sf_rootAt4 (L : Nat) (ys : Nat → Int32) (d : Nat) (s0 : im_S) (hT0 : tI s0) (x1 : Int) (x1l : -2147483648 ≤ x1) (x1h : x1 ≤ 2147483647) : icR gG rm_P L ys (d + 2) 157 [(2, ((1 : Nat) : Int)), (0, x1)] s0 (fun z s => tI s ∧ fr [] s0 s ∧ gK[z]? = some 23) := by
  refine ic_startM (M := rm_p_X4_rootAt) om_X4_rootAt (Nat.le_of_ble_eq_true rfl) ?_
  refine ir_w [(0, (2, ((1 : Nat) : Int))), (1, (0, x1))] ⟨rfl, rfl, trivial⟩ ?_
  have hF0 := fr_refl [] s0
  refine ir_l (pc' := 1) rfl rfl rfl rfl rfl rfl ?_
  refine ir_tgr (pc' := 4) rfl rfl rfl tf_1_1 tsk_1 hT0 (fun b1 b1e b1k => ?_)
  obtain rfl := tsg_10 b1k
  refine ir_tgr (pc' := 7) rfl rfl rfl tf_10_2 tsk_10 hT0 (fun b2 b2e b2k => ?_)
  obtain rfl := tsg_24 b2k
  refine ir_l (pc' := 8) rfl rfl rfl rfl rfl rfl ?_
  refine ir_tgr (pc' := 11) rfl rfl rfl tf_1_3 tsk_1 hT0 (fun b3 b3e b3k => ?_)
  obtain rfl := tsg_27 b3k
  refine ir_k (pc' := 12) (v := (0, 0)) rfl rfl rfl (fun _ => rfl) ?_
  refine ir_l (pc' := 13) rfl rfl rfl rfl rfl rfl ?_
  refine ir_k (pc' := 15) (v := (0, 79)) rfl rfl rfl (fun _ => rfl) ?_
  refine ir_cSI (pc' := 18) rfl rfl rfl rfl rfl rfl (Nat.le_of_ble_eq_true rfl) (sf_min L ys d s0 (x1) (by omega) (by omega) (79) (by omega) (by omega)) (fun z4 s5 hr => ?_)
  obtain ⟨rfl, z4p0, z4p1, z4p2⟩ := hr
  refine ir_cSI (pc' := 21) rfl rfl rfl rfl rfl rfl (Nat.le_of_ble_eq_true rfl) (sf_max L ys d s0 (0) (by omega) (by omega) (z4) (by omega) (by omega)) (fun z6 s7 hr => ?_)
  obtain ⟨rfl, z6p0, z6p1, z6p2⟩ := hr
  refine ir_tia (pc' := 22) rfl rfl te_27 (by decide) tsk_27 hT0 (by omega) (by omega) (fun z8 z8e z8l z8h => ?_)
  clear z8e
  refine ir_taa (pc' := 23) (k2 := 23) rfl rfl te_24 (by decide) tsk_24 hT0 (by omega) (by omega) (fun b9 b9k => ?_)
  exact ir_aret rfl rfl ⟨b9, rfl, hT0, hF0, b9k⟩
theorem sf_descend4 (L : Nat) (ys : Nat → Int32) (d : Nat) (s0 : im_S) (hT0 : tI s0) (x1 : Int) (x1l : 0 ≤ x1) (x1h : x1 ≤ 160) (x2 : Int) (x2l : -9223372036854775808 ≤ x2) (x2h : x2 ≤ 9223372036854775807) : icV gG rm_P L ys (d + 6) 149 [(2, ((1 : Nat) : Int)), (0, x1), (1, x2)] s0 (fun s => tI s ∧ fr [(19, 1), (19, 2), (25, 1), (25, 2)] s0 s) := by
  refine ic_startM (M := rm_p_X4_descend) om_X4_descend (Nat.le_of_ble_eq_true rfl) ?_
  refine ir_w [(0, (2, ((1 : Nat) : Int))), (1, (0, x1)), (2, (1, x2))] ⟨rfl, rfl, rfl, trivial⟩ ?_
  have hF0 := fr_refl [(19, 1), (19, 2), (25, 1), (25, 2)] s0
  have J40 : ∀ n : Nat, ∀ (q40_l4 : Nat) (q40_l4k : gK[q40_l4]? = some 23) (q40_l5 : Nat) (q40_l5k : gK[q40_l5]? = some 23) (q40_l6 : Int) (q40_l6l : -9223372036854775808 ≤ q40_l6) (q40_l6h : q40_l6 ≤ 9223372036854775807) (q40_l8 : Int) (q40_l8l : 1 ≤ q40_l8) (q40_l8h : q40_l8 ≤ 2000) (q40_l10 : Int) (q40_l10l : -9223372036854775808 ≤ q40_l10) (q40_l10h : q40_l10 ≤ 9223372036854775807) (q40_l12 : Int) (q40_l12l : 1 ≤ q40_l12) (q40_l12h : q40_l12 ≤ 2000) (s_40 : im_S) (hT_40 : tI s_40) (hF_40 : fr [(19, 1), (19, 2), (25, 1), (25, 2)] s0 s_40) (w40_1_12e : s_40.1 1 12 = ((581 : Nat) : Int)), (4001 - (q40_l8 + q40_l12)) ≤ (n : Int) → ir gG rm_P L ys (d + 5) rm_p_X4_descend (40, [(0, (2, ((1 : Nat) : Int))), (1, (0, x1)), (2, (1, x2)), (4, (2, ((q40_l4 : Nat) : Int))), (5, (2, ((q40_l5 : Nat) : Int))), (6, (1, q40_l6)), (8, (1, q40_l8)), (10, (1, q40_l10)), (12, (1, q40_l12))], [], s_40) (fun r : im_Re => r.1 = none ∧ (tI r.2 ∧ fr [(19, 1), (19, 2), (25, 1), (25, 2)] s0 r.2)) := by
    intro n
    induction n with
    | zero => intro q40_l4 q40_l4k q40_l5 q40_l5k q40_l6 q40_l6l q40_l6h q40_l8 q40_l8l q40_l8h q40_l10 q40_l10l q40_l10h q40_l12 q40_l12l q40_l12h s_40 hT_40 hF_40 w40_1_12e hr; exfalso; omega
    | succ n ih40 =>
      intro q40_l4 q40_l4k q40_l5 q40_l5k q40_l6 q40_l6l q40_l6h q40_l8 q40_l8l q40_l8h q40_l10 q40_l10l q40_l10h q40_l12 q40_l12l q40_l12h s_40 hT_40 hF_40 w40_1_12e hr
      have J145 : ∀ (q145_l6 : Int) (q145_l6l : -9223372036854775808 ≤ q145_l6) (q145_l6h : q145_l6 ≤ 9223372036854775807) (q145_l8 : Int) (q145_l8l : 1 ≤ q145_l8) (q145_l8h : q145_l8 ≤ 2000) (q145_l10 : Int) (q145_l10l : -9223372036854775808 ≤ q145_l10) (q145_l10h : q145_l10 ≤ 9223372036854775807) (q145_l12 : Int) (q145_l12l : 1 ≤ q145_l12) (q145_l12h : q145_l12 ≤ 2000) (s_145 : im_S) (hT_145 : tI s_145) (hF_145 : fr [(19, 1), (19, 2), (25, 1), (25, 2)] s0 s_145) (w145_1_1e : s_145.1 1 1 = ((83 : Nat) : Int)) (w145_1_12e : s_145.1 1 12 = ((581 : Nat) : Int)) (i145_0 : q40_l8 + q40_l12 < q145_l8 + q145_l12), ir gG rm_P L ys (d + 5) rm_p_X4_descend (145, [(0, (2, ((1 : Nat) : Int))), (1, (0, x1)), (2, (1, x2)), (4, (2, ((q40_l4 : Nat) : Int))), (5, (2, ((q40_l5 : Nat) : Int))), (6, (1, q145_l6)), (8, (1, q145_l8)), (10, (1, q145_l10)), (12, (1, q145_l12))], [], s_145) (fun r : im_Re => r.1 = none ∧ (tI r.2 ∧ fr [(19, 1), (19, 2), (25, 1), (25, 2)] s0 r.2)) := by
        intro q145_l6 q145_l6l q145_l6h q145_l8 q145_l8l q145_l8h q145_l10 q145_l10l q145_l10h q145_l12 q145_l12l q145_l12h s_145 hT_145 hF_145 w145_1_1e w145_1_12e i145_0
        refine ir_goto (pc' := 40) rfl rfl ?_
        refine ir_w [(0, (2, ((1 : Nat) : Int))), (1, (0, x1)), (2, (1, x2)), (4, (2, ((q40_l4 : Nat) : Int))), (5, (2, ((q40_l5 : Nat) : Int))), (6, (1, q145_l6)), (8, (1, q145_l8)), (10, (1, q145_l10)), (12, (1, q145_l12))] ⟨rfl, rfl, rfl, rfl, rfl, rfl, rfl, rfl, rfl, trivial⟩ ?_
        exact ih40 q40_l4 q40_l4k q40_l5 q40_l5k (q145_l6) (by omega) (by omega) (q145_l8) (by omega) (by omega) (q145_l10) (by omega) (by omega) (q145_l12) (by omega) (by omega) s_145 hT_145 hF_145 w145_1_12e (by omega)
      refine ir_l (pc' := 42) rfl rfl rfl rfl rfl rfl ?_
      refine ir_l (pc' := 44) rfl rfl rfl rfl rfl rfl ?_
      refine ir_ladd (pc' := 45) rfl rfl (by omega) (by omega) ?_
      refine ir_k (pc' := 48) (v := (1, 2000)) rfl rfl rfl (fun _ => rfl) ?_
      refine ir_lcmp (pc' := 49) rfl rfl (by omega) (by omega) (by omega) (by omega) (fun z1 z1c => ?_)
      refine ir_z_gt (pt := 148) (pc' := 52) rfl rfl rfl (fun c2 => ?_) (fun c2 => ?_)
      · exact ir_vret rfl rfl ⟨rfl, hT_40, hF_40⟩
      · refine ir_l (pc' := 54) rfl rfl rfl rfl rfl rfl ?_
        refine ir_l (pc' := 56) rfl rfl rfl rfl rfl rfl ?_
        refine ir_jjA (pc' := 57) rfl rfl rfl rfl (fun z3 z3l z3h => ?_)
        refine ir_s2 (pc' := 59) rfl rfl rfl rfl rfl rfl ?_
        refine ir_l (pc' := 61) rfl rfl rfl rfl rfl rfl ?_
        refine ir_l (pc' := 63) rfl rfl rfl rfl rfl rfl ?_
        refine ir_ladd (pc' := 64) rfl rfl (by omega) (by omega) ?_
        refine ir_s2 (pc' := 66) rfl rfl rfl rfl rfl rfl ?_
        refine ir_l (pc' := 67) rfl rfl rfl rfl rfl rfl ?_
        refine ir_tgr (pc' := 70) rfl rfl rfl tf_1_1 tsk_1 hT_40 (fun b4 b4e b4k => ?_)
        obtain rfl := tsg_10 b4k
        refine ir_l (pc' := 72) rfl rfl rfl rfl rfl rfl ?_
        refine ir_l (pc' := 73) rfl rfl rfl rfl rfl rfl ?_
        refine ir_l (pc' := 75) rfl rfl rfl rfl rfl rfl ?_
        refine ir_l (pc' := 77) rfl rfl rfl rfl rfl rfl ?_
        refine ir_cVI (pc' := 80) rfl rfl rfl rfl rfl (Nat.le_of_ble_eq_true rfl) oo_X3_compareWith (gG_at tsk_10) (sf_compareWith3 L ys d s_40 hT_40 q40_l4 q40_l4k (x2) (by omega) (by omega) (z3) (by omega) (by omega) ((q40_l8 + q40_l12)) (by omega) (by omega) ) (fun z5 s6 hr => ?_)
        obtain ⟨hT6, hG6, z5l, z5h⟩ := hr
        have hF6 := fr_trans hF_40 hG6 (by decide)
        have e7 : s6.1 1 12 = ((581 : Nat) : Int) := (hG6.1 _ _ tsk_1 12 (by decide)).trans w40_1_12e
        have e8 : s6.1 1 1 = ((83 : Nat) : Int) := (hG6.1 _ _ tsk_1 1 (by decide)).trans b4e
        refine ir_z_lt (pt := 94) (pc' := 83) rfl rfl rfl (fun c9 => ?_) (fun c9 => ?_)
        · refine ir_l (pc' := 95) rfl rfl rfl rfl rfl rfl ?_
          refine ir_getR (pc' := 98) rfl rfl rfl (gG_at tsk_1) rfl e8 ?_
          refine ir_l (pc' := 100) rfl rfl rfl rfl rfl rfl ?_
          refine ir_l (pc' := 101) rfl rfl rfl rfl rfl rfl ?_
          refine ir_l (pc' := 103) rfl rfl rfl rfl rfl rfl ?_
          refine ir_l (pc' := 105) rfl rfl rfl rfl rfl rfl ?_
          refine ir_cVI (pc' := 108) rfl rfl rfl rfl rfl (Nat.le_of_ble_eq_true rfl) oo_X3_compareWith (gG_at tsk_10) (sf_compareWith3 L ys d s6 hT6 q40_l5 q40_l5k (x2) (by omega) (by omega) (z3) (by omega) (by omega) ((q40_l8 + q40_l12)) (by omega) (by omega) ) (fun z10 s11 hr => ?_)
          obtain ⟨hT11, hG11, z10l, z10h⟩ := hr
          have hF11 := fr_trans hF6 hG11 (by decide)
          have e12 : s11.1 1 12 = ((581 : Nat) : Int) := (hG11.1 _ _ tsk_1 12 (by decide)).trans e7
          have e13 : s11.1 1 1 = ((83 : Nat) : Int) := (hG11.1 _ _ tsk_1 1 (by decide)).trans e8
          refine ir_z_gt (pt := 122) (pc' := 111) rfl rfl rfl (fun c14 => ?_) (fun c14 => ?_)
          · refine ir_l (pc' := 123) rfl rfl rfl rfl rfl rfl ?_
            refine ir_tgr (pc' := 126) rfl rfl rfl tf_1_11 tsk_1 hT11 (fun b15 b15e b15k => ?_)
            obtain rfl := tsg_30 b15k
            refine ir_l (pc' := 127) rfl rfl rfl rfl rfl rfl ?_
            refine ir_l (pc' := 128) rfl rfl rfl rfl rfl rfl ?_
            refine ir_l (pc' := 130) rfl rfl rfl rfl rfl rfl ?_
            refine ir_jjA (pc' := 131) rfl rfl rfl rfl (fun z16 z16l z16h => ?_)
            refine ir_l (pc' := 133) rfl rfl rfl rfl rfl rfl ?_
            refine ir_jjA (pc' := 134) rfl rfl rfl rfl (fun z17 z17l z17h => ?_)
            refine ir_tls (pc' := 135) rfl rfl te_30 tsk_30 hT11 (by omega) (by omega) (by omega) (by omega) (fun s18 hT18 r18 o18 => ?_)
            have hF18 := fr_row hF11 r18 o18
            have e19 : s18.1 1 12 = ((581 : Nat) : Int) := by rw [r18]; exact e12
            have e20 : s18.1 1 1 = ((83 : Nat) : Int) := by rw [r18]; exact e13
            have e21 : s18.1 1 11 = ((580 : Nat) : Int) := by rw [r18]; exact b15e
            refine ir_l (pc' := 136) rfl rfl rfl rfl rfl rfl ?_
            refine ir_getR (pc' := 139) rfl rfl rfl (gG_at tsk_1) rfl e19 ?_
            refine ir_l (pc' := 140) rfl rfl rfl rfl rfl rfl ?_
            refine ir_l (pc' := 142) rfl rfl rfl rfl rfl rfl ?_
            refine ir_l2i (pc' := 143) rfl rfl (by omega) (by omega) ?_
            refine ir_tis (pc' := 144) rfl rfl rfl rfl te_31 tsk_31 hT18 (by omega) (by omega) (rfl) (by omega) (by omega) (fun s22 hT22 r22 o22 => ?_)
            have hF22 := fr_row hF18 r22 o22
            have e23 : s22.1 1 12 = ((581 : Nat) : Int) := by rw [r22]; exact e19
            have e24 : s22.1 1 1 = ((83 : Nat) : Int) := by rw [r22]; exact e20
            have e25 : s22.1 1 11 = ((580 : Nat) : Int) := by rw [r22]; exact e21
            exact ir_vret rfl rfl ⟨rfl, hT22, hF22⟩
          · refine ir_l (pc' := 113) rfl rfl rfl rfl rfl rfl ?_
            refine ir_s2 (pc' := 115) rfl rfl rfl rfl rfl rfl ?_
            refine ir_l (pc' := 117) rfl rfl rfl rfl rfl rfl ?_
            refine ir_s2 (pc' := 119) rfl rfl rfl rfl rfl rfl ?_
            refine ir_goto (pc' := 145) rfl rfl ?_
            refine ir_w [(0, (2, ((1 : Nat) : Int))), (1, (0, x1)), (2, (1, x2)), (4, (2, ((q40_l4 : Nat) : Int))), (5, (2, ((q40_l5 : Nat) : Int))), (6, (1, q40_l6)), (8, (1, q40_l8)), (10, (1, z3)), (12, (1, (q40_l8 + q40_l12)))] ⟨rfl, rfl, rfl, rfl, rfl, rfl, rfl, rfl, rfl, trivial⟩ ?_
            exact J145 (q40_l6) (by omega) (by omega) (q40_l8) (by omega) (by omega) (z3) (by omega) (by omega) ((q40_l8 + q40_l12)) (by omega) (by omega) s11 hT11 hF11 e13 e12 (by omega)
        · refine ir_l (pc' := 85) rfl rfl rfl rfl rfl rfl ?_
          refine ir_s2 (pc' := 87) rfl rfl rfl rfl rfl rfl ?_
          refine ir_l (pc' := 89) rfl rfl rfl rfl rfl rfl ?_
          refine ir_s2 (pc' := 91) rfl rfl rfl rfl rfl rfl ?_
          refine ir_goto (pc' := 145) rfl rfl ?_
          refine ir_w [(0, (2, ((1 : Nat) : Int))), (1, (0, x1)), (2, (1, x2)), (4, (2, ((q40_l4 : Nat) : Int))), (5, (2, ((q40_l5 : Nat) : Int))), (6, (1, z3)), (8, (1, (q40_l8 + q40_l12))), (10, (1, q40_l10)), (12, (1, q40_l12))] ⟨rfl, rfl, rfl, rfl, rfl, rfl, rfl, rfl, rfl, trivial⟩ ?_
          exact J145 (z3) (by omega) (by omega) ((q40_l8 + q40_l12)) (by omega) (by omega) (q40_l10) (by omega) (by omega) (q40_l12) (by omega) (by omega) s6 hT6 hF6 e8 e7 (by omega)
  refine ir_l (pc' := 1) rfl rfl rfl rfl rfl rfl ?_
  refine ir_l (pc' := 2) rfl rfl rfl rfl rfl rfl ?_
  refine ir_k (pc' := 3) (v := (0, 2)) rfl rfl rfl (fun _ => rfl) ?_
  refine ir_divN (pc' := 4) rfl rfl (by omega) (by omega) (by omega) (by omega) ?_
  refine ir_k (pc' := 5) (v := (0, 1)) rfl rfl rfl (fun _ => rfl) ?_
  refine ir_sub (pc' := 6) rfl rfl (by omega) (by omega) ?_
  refine ir_cVR (pc' := 9) rfl rfl rfl rfl rfl (Nat.le_of_ble_eq_true rfl) oo_X4_rootAt (gG_at tsk_1) (sf_rootAt4 L ys (d + 3) s0 hT0 (((x1 / 2) - 1)) (by omega) (by omega) ) (fun b26 s27 hr => ?_)
  obtain ⟨hT27, hG27, b26k⟩ := hr
  have hF27 := fr_trans hF0 hG27 (by decide)
  refine ir_s (pc' := 11) rfl rfl rfl rfl rfl rfl ?_
  refine ir_l (pc' := 12) rfl rfl rfl rfl rfl rfl ?_
  refine ir_l (pc' := 13) rfl rfl rfl rfl rfl rfl ?_
  refine ir_k (pc' := 14) (v := (0, 2)) rfl rfl rfl (fun _ => rfl) ?_
  refine ir_divN (pc' := 15) rfl rfl (by omega) (by omega) (by omega) (by omega) ?_
  refine ir_cVR (pc' := 18) rfl rfl rfl rfl rfl (Nat.le_of_ble_eq_true rfl) oo_X4_rootAt (gG_at tsk_1) (sf_rootAt4 L ys (d + 3) s27 hT27 ((x1 / 2)) (by omega) (by omega) ) (fun b28 s29 hr => ?_)
  obtain ⟨hT29, hG29, b28k⟩ := hr
  have hF29 := fr_trans hF27 hG29 (by decide)
  refine ir_s (pc' := 20) rfl rfl rfl rfl rfl rfl ?_
  refine ir_k (pc' := 21) (v := (1, 0)) rfl rfl rfl (fun _ => rfl) ?_
  refine ir_s2 (pc' := 23) rfl rfl rfl rfl rfl rfl ?_
  refine ir_k (pc' := 24) (v := (1, 1)) rfl rfl rfl (fun _ => rfl) ?_
  refine ir_s2 (pc' := 26) rfl rfl rfl rfl rfl rfl ?_
  refine ir_k (pc' := 27) (v := (1, 1)) rfl rfl rfl (fun _ => rfl) ?_
  refine ir_s2 (pc' := 29) rfl rfl rfl rfl rfl rfl ?_
  refine ir_k (pc' := 30) (v := (1, 1)) rfl rfl rfl (fun _ => rfl) ?_
  refine ir_s2 (pc' := 32) rfl rfl rfl rfl rfl rfl ?_
  refine ir_l (pc' := 33) rfl rfl rfl rfl rfl rfl ?_
  refine ir_tgr (pc' := 36) rfl rfl rfl tf_1_12 tsk_1 hT29 (fun b30 b30e b30k => ?_)
  obtain rfl := tsg_31 b30k
  refine ir_l (pc' := 37) rfl rfl rfl rfl rfl rfl ?_
  refine ir_k (pc' := 39) (v := (0, (-3))) rfl rfl rfl (fun _ => rfl) ?_
  refine ir_tis (pc' := 40) rfl rfl rfl rfl te_31 tsk_31 hT29 (by omega) (by omega) (rfl) (by omega) (by omega) (fun s31 hT31 r31 o31 => ?_)
  have hF31 := fr_row hF29 r31 o31
  have e32 : s31.1 1 12 = ((581 : Nat) : Int) := by rw [r31]; exact b30e
  refine ir_w [(0, (2, ((1 : Nat) : Int))), (1, (0, x1)), (2, (1, x2)), (4, (2, ((b26 : Nat) : Int))), (5, (2, ((b28 : Nat) : Int))), (6, (1, 0)), (8, (1, 1)), (10, (1, 1)), (12, (1, 1))] ⟨rfl, rfl, rfl, rfl, rfl, rfl, rfl, rfl, rfl, trivial⟩ ?_
  exact J40 _ b26 b26k b28 b28k (0) (by omega) (by omega) (1) (by omega) (by omega) (1) (by omega) (by omega) (1) (by omega) (by omega) s31 hT31 hF31 e32 (Int.self_le_toNat _)
theorem sf_fillAt4 (L : Nat) (ys : Nat → Int32) (d : Nat) (s0 : im_S) (hT0 : tI s0) (x1 : Int) (x1l : 0 ≤ x1) (x1h : x1 ≤ 160) : icV gG rm_P L ys (d + 3) 150 [(2, ((1 : Nat) : Int)), (0, x1)] s0 (fun s => tI s ∧ fr [] s0 s) := by
  refine ic_startM (M := rm_p_X4_fillAt) om_X4_fillAt (Nat.le_of_ble_eq_true rfl) ?_
  refine ir_w [(0, (2, ((1 : Nat) : Int))), (1, (0, x1))] ⟨rfl, rfl, trivial⟩ ?_
  have hF0 := fr_refl [] s0
  have J63 : ∀ (s_63 : im_S) (hT_63 : tI s_63) (hF_63 : fr [] s0 s_63) (w63_1_11e : s_63.1 1 11 = ((580 : Nat) : Int)) (w63_1_12e : s_63.1 1 12 = ((581 : Nat) : Int)), ir gG rm_P L ys (d + 2) rm_p_X4_fillAt (63, [], [], s_63) (fun r : im_Re => r.1 = none ∧ (tI r.2 ∧ fr [] s0 r.2)) := by
    intro s_63 hT_63 hF_63 w63_1_11e w63_1_12e
    exact ir_vret rfl rfl ⟨rfl, hT_63, hF_63⟩
  have J62 : ∀ (q62_s1 : Int) (q62_s1l : 0 ≤ q62_s1) (q62_s1h : q62_s1 ≤ 160) (q62_s2 : Int) (q62_s2l : -3 ≤ q62_s2) (q62_s2h : q62_s2 ≤ 2000) (s_62 : im_S) (hT_62 : tI s_62) (hF_62 : fr [] s0 s_62) (w62_1_11e : s_62.1 1 11 = ((580 : Nat) : Int)) (w62_1_12e : s_62.1 1 12 = ((581 : Nat) : Int)), ir gG rm_P L ys (d + 2) rm_p_X4_fillAt (62, [], [(0, q62_s2), (0, q62_s1), (2, ((581 : Nat) : Int))], s_62) (fun r : im_Re => r.1 = none ∧ (tI r.2 ∧ fr [] s0 r.2)) := by
    intro q62_s1 q62_s1l q62_s1h q62_s2 q62_s2l q62_s2h s_62 hT_62 hF_62 w62_1_11e w62_1_12e
    refine ir_tis (pc' := 63) rfl rfl rfl rfl te_31 tsk_31 hT_62 (by omega) (by omega) (rfl) (by omega) (by omega) (fun s1 hT1 r1 o1 => ?_)
    have hF1 := fr_row hF_62 r1 o1
    have e2 : s1.1 1 11 = ((580 : Nat) : Int) := by rw [r1]; exact w62_1_11e
    have e3 : s1.1 1 12 = ((581 : Nat) : Int) := by rw [r1]; exact w62_1_12e
    refine ir_w [] trivial ?_
    exact J63 s1 hT1 hF1 e2 e3
  refine ir_l (pc' := 1) rfl rfl rfl rfl rfl rfl ?_
  refine ir_l (pc' := 2) rfl rfl rfl rfl rfl rfl ?_
  refine ir_k (pc' := 3) (v := (0, 2)) rfl rfl rfl (fun _ => rfl) ?_
  refine ir_divN (pc' := 4) rfl rfl (by omega) (by omega) (by omega) (by omega) ?_
  refine ir_cVR (pc' := 7) rfl rfl rfl rfl rfl (Nat.le_of_ble_eq_true rfl) oo_X4_rootAt (gG_at tsk_1) (sf_rootAt4 L ys d s0 hT0 ((x1 / 2)) (by omega) (by omega) ) (fun b4 s5 hr => ?_)
  obtain ⟨hT5, hG5, b4k⟩ := hr
  have hF5 := fr_trans hF0 hG5 (by decide)
  refine ir_s (pc' := 8) rfl rfl rfl rfl rfl rfl ?_
  refine ir_l (pc' := 9) rfl rfl rfl rfl rfl rfl ?_
  refine ir_tgr (pc' := 12) rfl rfl rfl tf_1_11 tsk_1 hT5 (fun b6 b6e b6k => ?_)
  obtain rfl := tsg_30 b6k
  refine ir_l (pc' := 13) rfl rfl rfl rfl rfl rfl ?_
  refine ir_l (pc' := 14) rfl rfl rfl rfl rfl rfl ?_
  refine ir_tgj (pc' := 17) rfl rfl rfl tf_23_2 b4k hT5 (fun z7 z7e z7l z7h => ?_)
  refine ir_tls (pc' := 18) rfl rfl te_30 tsk_30 hT5 (by omega) (by omega) (by omega) (by omega) (fun s8 hT8 r8 o8 => ?_)
  have hF8 := fr_row hF5 r8 o8
  have e9 : s8.1 1 11 = ((580 : Nat) : Int) := by rw [r8]; exact b6e
  have e10 : s8.1 b4 2 = z7 := by rw [r8]; exact z7e
  refine ir_l (pc' := 19) rfl rfl rfl rfl rfl rfl ?_
  refine ir_tgi (pc' := 22) rfl rfl rfl tf_23_1 b4k hT8 (fun z11 z11e z11l z11h => ?_)
  refine ir_z_ne (pt := 36) (pc' := 25) rfl rfl rfl (fun c12 => ?_) (fun c12 => ?_)
  · refine ir_l (pc' := 37) rfl rfl rfl rfl rfl rfl ?_
    refine ir_tgr (pc' := 40) rfl rfl rfl tf_1_12 tsk_1 hT8 (fun b13 b13e b13k => ?_)
    obtain rfl := tsg_31 b13k
    refine ir_l (pc' := 41) rfl rfl rfl rfl rfl rfl ?_
    refine ir_l (pc' := 42) rfl rfl rfl rfl rfl rfl ?_
    refine ir_tgj (pc' := 45) rfl rfl rfl tf_23_3 b4k hT8 (fun z14 z14e z14l z14h => ?_)
    refine ir_k (pc' := 48) (v := (1, 2000)) rfl rfl rfl (fun _ => rfl) ?_
    refine ir_lcmp (pc' := 49) rfl rfl (by omega) (by omega) (by omega) (by omega) (fun z15 z15c => ?_)
    refine ir_z_le (pt := 57) (pc' := 52) rfl rfl rfl (fun c16 => ?_) (fun c16 => ?_)
    · refine ir_l (pc' := 58) rfl rfl rfl rfl rfl rfl ?_
      refine ir_getJ (pc' := 61) rfl rfl rfl (gG_at b4k) rfl z14e (by omega) (by omega) ?_
      refine ir_l2i (pc' := 62) rfl rfl (by omega) (by omega) ?_
      refine ir_w [] trivial ?_
      exact J62 (x1) (by omega) (by omega) (z14) (by omega) (by omega) s8 hT8 hF8 e9 b13e
    · refine ir_k (pc' := 54) (v := (0, (-3))) rfl rfl rfl (fun _ => rfl) ?_
      refine ir_goto (pc' := 62) rfl rfl ?_
      refine ir_w [] trivial ?_
      exact J62 (x1) (by omega) (by omega) ((-3)) (by omega) (by omega) s8 hT8 hF8 e9 b13e
  · refine ir_l (pc' := 26) rfl rfl rfl rfl rfl rfl ?_
    refine ir_tgr (pc' := 29) rfl rfl rfl tf_1_12 tsk_1 hT8 (fun b17 b17e b17k => ?_)
    obtain rfl := tsg_31 b17k
    refine ir_l (pc' := 30) rfl rfl rfl rfl rfl rfl ?_
    refine ir_k (pc' := 32) (v := (0, (-2))) rfl rfl rfl (fun _ => rfl) ?_
    refine ir_tis (pc' := 33) rfl rfl rfl rfl te_31 tsk_31 hT8 (by omega) (by omega) (rfl) (by omega) (by omega) (fun s18 hT18 r18 o18 => ?_)
    have hF18 := fr_row hF8 r18 o18
    have e19 : s18.1 1 11 = ((580 : Nat) : Int) := by rw [r18]; exact e9
    have e20 : s18.1 b4 2 = z7 := by rw [r18]; exact e10
    have e21 : s18.1 b4 1 = z11 := by rw [r18]; exact z11e
    have e22 : s18.1 1 12 = ((581 : Nat) : Int) := by rw [r18]; exact b17e
    refine ir_goto (pc' := 63) rfl rfl ?_
    refine ir_w [] trivial ?_
    exact J63 s18 hT18 hF18 e19 e22
