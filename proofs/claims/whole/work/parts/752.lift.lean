/-! FINDER OF THE CLASS, lifted by program -/
def C_setValue3_111 (K34 : Int × im_S → Prop) (l1 : Nat) (l2 : Nat) (l4 : Int) (l5 : Int) (s : im_S) (Q : im_S → Prop) : Prop := (K34 ((w32 (l5 + (-1))), s))
def C_setValue3_34 (K34 : Int × im_S → Prop) (l1 : Nat) (l2 : Nat) (l4 : Int) (l5 : Int) (s : im_S) (Q : im_S → Prop) : Prop := ((l5 < 0 → (Q s)) ∧ (¬ (l5 < 0) → (C_setProduct1 565 l1 561 s (fun s3 => (C_copy1 l1 565 s3 (fun s5 => (caJ s5 (l2 + 1) l5 → (((cga s5 (l2 + 1) l5) = 0 → (C_setValue3_111 K34 l1 l2 l4 l5 s5 Q)) ∧ (¬ ((cga s5 (l2 + 1) l5) = 0) → (caJ s5 (l2 + 1) l5 → (C_set1 563 (cga s5 (l2 + 1) l5) s5 (fun s11 => (C_shiftUp1 563 (w32 (l4 * (w32 ((cgf s11 l2 0) - l5)))) s11 (fun s14 => (C_add1 l1 563 1 s14 (fun s16 => (C_setValue3_111 K34 l1 l2 l4 l5 s16 Q)))))))))))))))))
def C_setValue3 (l1 : Nat) (l2 : Nat) (l3 : Nat) (l4 : Int) (s : im_S) (Q : im_S → Prop) : Prop := (C_copy1 561 l3 s (fun s18 => (C_shiftUp1 561 (w32 (-l4)) s18 (fun s20 => (C_lead6 l2 s20 (fun z23 s22 => (C_set1 l1 z23 s22 (fun s24 => (ploop (fun (K : Int × im_S → Prop) (a : Int × im_S) => C_setValue3_34 K l1 l2 l4 a.1 a.2 Q) ((w32 ((cgf s24 l2 0) - 1)), s24))))))))))
set_option maxRecDepth 16384 in
theorem c_setValue3 (L : Nat) (ys : Nat → Int32) (d : Nat) (s : im_S) (hv : jI s) (l1 : Nat) (l1n : nb l1) (l2 : Nat) (l3 : Nat) (l4 : Int) (l4r : iR l4) (Q : im_S → Prop) (hW : C_setValue3 l1 l2 l3 l4 s Q) : pcV L ys d 141 [(2, ((83 : Nat) : Int)), (2, ((l1 : Nat) : Int)), (2, ((l2 : Nat) : Int)), (2, ((l3 : Nat) : Int)), (0, l4)] s (fun s9 => jI s9 ∧ Q s9) := by
  intro res hres
  refine pq_start (M := rm_p_X3_setValue) (Q := (fun r : im_Re => r.1 = none ∧ (jI r.2 ∧ Q r.2))) om_X3_setValue (fun d N => ?_) res hres
  refine pq_w [(0, (2, ((83 : Nat) : Int))), (1, (2, ((l1 : Nat) : Int))), (2, (2, ((l2 : Nat) : Int))), (3, (2, ((l3 : Nat) : Int))), (4, (0, l4))] ⟨rfl, rfl, rfl, rfl, rfl, trivial⟩ ?_
  have J34 : ∀ (l1 : Nat) (l1n : nb l1) (l2 : Nat) (l4 : Int) (l4r : iR l4) (I34 : Int × im_S → Prop) (hB34 : ∀ a : Int × im_S, I34 a → C_setValue3_34 I34 l1 l2 l4 a.1 a.2 Q), ∀ N34 : Nat, N34 ≤ N → ∀ (l5 : Int) (l5r : iR l5) (s : im_S) (hv : jI s), I34 (l5, s) → pq L ys d N34 rm_p_X3_setValue (34, [(0, (2, ((83 : Nat) : Int))), (1, (2, ((l1 : Nat) : Int))), (2, (2, ((l2 : Nat) : Int))), (4, (0, l4)), (5, (0, l5))], [], s) (fun r : im_Re => r.1 = none ∧ (jI r.2 ∧ Q r.2)) := by
    intro l1 l1n l2 l4 l4r I34 hB34 N34
    induction N34 using Nat.strongRecOn with
    | _ N34 ih34 =>
      intro hN34 l5 l5r s hv hI
      have hW : C_setValue3_34 I34 l1 l2 l4 l5 s Q := hB34 (l5, s) hI
      have J111 : ∀ N111 : Nat, N111 ≤ N34 → ∀ (l5 : Int) (l5r : iR l5) (s : im_S) (hv : jI s), C_setValue3_111 I34 l1 l2 l4 l5 s Q → pq L ys d N111 rm_p_X3_setValue (111, [(0, (2, ((83 : Nat) : Int))), (1, (2, ((l1 : Nat) : Int))), (2, (2, ((l2 : Nat) : Int))), (4, (0, l4)), (5, (0, l5))], [], s) (fun r : im_Re => r.1 = none ∧ (jI r.2 ∧ Q r.2)) := by
        intro N111 hN111 l5 l5r s hv hW
        unfold C_setValue3_111 at hW
        refine pq_inc (pc' := 114) rfl rfl rfl rfl ?_
        refine pq_gotoT (pc' := 34) rfl rfl (fun m1 m1l => ?_)
        refine pq_w [(0, (2, ((83 : Nat) : Int))), (1, (2, ((l1 : Nat) : Int))), (2, (2, ((l2 : Nat) : Int))), (4, (0, l4)), (5, (0, (w32 (l5 + (-1)))))] ⟨rfl, rfl, rfl, rfl, rfl, trivial⟩ ?_
        exact ih34 m1 (by omega) (by omega) (w32 (l5 + (-1))) (w32_r _) s hv hW
      unfold C_setValue3_34 at hW
      refine pq_l (pc' := 36) rfl rfl rfl rfl rfl ?_
      refine pq_z_lt (pt := 117) (pc' := 39) rfl rfl rfl (fun c2 => ?_) (fun c2 => ?_)
      · have hW := hW.1 c2
        exact pq_vret rfl ⟨rfl, hv, hW⟩
      · have hW := hW.2 c2
        refine pq_l (pc' := 40) rfl rfl rfl rfl rfl ?_
        refine pq_gr (pc' := 43) (c := 565) (v := 565) rfl rfl rfl rfl rfl rfl hv ?_
        refine pq_l (pc' := 44) rfl rfl rfl rfl rfl ?_
        refine pq_l (pc' := 45) rfl rfl rfl rfl rfl ?_
        refine pq_gr (pc' := 48) (c := 561) (v := 561) rfl rfl rfl rfl rfl rfl hv ?_
        refine pq_cVV (pc' := 51) rfl rfl rfl rfl rfl (c_setProduct1 L ys d s hv 565 (⟨by decide, by decide⟩ : nb 565) l1 561 _ hW) (fun s3 hr => ?_)
        obtain ⟨s3v, hW⟩ := hr
        refine pq_l (pc' := 52) rfl rfl rfl rfl rfl ?_
        refine pq_l (pc' := 53) rfl rfl rfl rfl rfl ?_
        refine pq_gr (pc' := 56) (c := 565) (v := 565) rfl rfl rfl rfl rfl rfl s3v ?_
        refine pq_cVV (pc' := 59) rfl rfl rfl rfl rfl (c_copy1 L ys d s3 s3v l1 l1n 565 _ hW) (fun s5 hr => ?_)
        obtain ⟨s5v, hW⟩ := hr
        refine pq_l (pc' := 60) rfl rfl rfl rfl rfl ?_
        refine pq_gr (pc' := 63) (c := (l2 + 1)) (v := 0) rfl rfl rfl rfl rfl rfl s5v ?_
        refine pq_l (pc' := 65) rfl rfl rfl rfl rfl ?_
        refine pq_la (pc' := 66) rfl rfl (fun r7a r7b r7 => ?_)
        have hW := hW ⟨⟨r7a, r7b⟩, r7⟩
        refine pq_k (pc' := 67) (v := (1, 0)) rfl rfl rfl (fun _ => rfl) ?_
        refine pq_lcmp (pc' := 68) rfl rfl r7 (⟨by decide, by decide⟩ : lR 0) (fun z8 z8c => ?_)
        refine pq_z_eq (pt := 111) (pc' := 71) rfl rfl rfl (fun c9 => ?_) (fun c9 => ?_)
        · have c9 : (cga s5 (l2 + 1) l5) = 0 := by omega
          have hW := hW.1 c9
          refine pq_w [(0, (2, ((83 : Nat) : Int))), (1, (2, ((l1 : Nat) : Int))), (2, (2, ((l2 : Nat) : Int))), (4, (0, l4)), (5, (0, l5))] ⟨rfl, rfl, rfl, rfl, rfl, trivial⟩ ?_
          exact J111 N34 (by omega) l5 l5r s5 s5v hW
        · have c9 : ¬ ((cga s5 (l2 + 1) l5) = 0) := by omega
          have hW := hW.2 c9
          refine pq_l (pc' := 72) rfl rfl rfl rfl rfl ?_
          refine pq_gr (pc' := 75) (c := 563) (v := 563) rfl rfl rfl rfl rfl rfl s5v ?_
          refine pq_l (pc' := 76) rfl rfl rfl rfl rfl ?_
          refine pq_gr (pc' := 79) (c := (l2 + 1)) (v := 0) rfl rfl rfl rfl rfl rfl s5v ?_
          refine pq_l (pc' := 81) rfl rfl rfl rfl rfl ?_
          refine pq_la (pc' := 82) rfl rfl (fun r10a r10b r10 => ?_)
          have hW := hW ⟨⟨r10a, r10b⟩, r10⟩
          refine pq_cVV (pc' := 85) rfl rfl rfl rfl rfl (c_set1 L ys d s5 s5v 563 (⟨by decide, by decide⟩ : nb 563) (cga s5 (l2 + 1) l5) r10 _ hW) (fun s11 hr => ?_)
          obtain ⟨s11v, hW⟩ := hr
          refine pq_l (pc' := 86) rfl rfl rfl rfl rfl ?_
          refine pq_gr (pc' := 89) (c := 563) (v := 563) rfl rfl rfl rfl rfl rfl s11v ?_
          refine pq_l (pc' := 91) rfl rfl rfl rfl rfl ?_
          refine pq_l (pc' := 92) rfl rfl rfl rfl rfl ?_
          refine pq_gi (pc' := 95) rfl rfl rfl rfl rfl (fun r13 => ?_)
          refine pq_l (pc' := 97) rfl rfl rfl rfl rfl ?_
          refine pq_sub (pc' := 98) rfl rfl ?_
          refine pq_mul (pc' := 99) rfl rfl ?_
          refine pq_cVV (pc' := 102) rfl rfl rfl rfl rfl (c_shiftUp1 L ys d s11 s11v 563 (⟨by decide, by decide⟩ : nb 563) (w32 (l4 * (w32 ((cgf s11 l2 0) - l5)))) (w32_r _) _ hW) (fun s14 hr => ?_)
          obtain ⟨s14v, hW⟩ := hr
          refine pq_l (pc' := 103) rfl rfl rfl rfl rfl ?_
          refine pq_l (pc' := 104) rfl rfl rfl rfl rfl ?_
          refine pq_gr (pc' := 107) (c := 563) (v := 563) rfl rfl rfl rfl rfl rfl s14v ?_
          refine pq_k (pc' := 108) (v := (0, 1)) rfl rfl rfl (fun _ => rfl) ?_
          refine pq_cVV (pc' := 111) rfl rfl rfl rfl rfl (c_add1 L ys d s14 s14v l1 l1n 563 1 (⟨by decide, by decide⟩ : iR 1) _ hW) (fun s16 hr => ?_)
          obtain ⟨s16v, hW⟩ := hr
          refine pq_w [(0, (2, ((83 : Nat) : Int))), (1, (2, ((l1 : Nat) : Int))), (2, (2, ((l2 : Nat) : Int))), (4, (0, l4)), (5, (0, l5))] ⟨rfl, rfl, rfl, rfl, rfl, trivial⟩ ?_
          exact J111 N34 (by omega) l5 l5r s16 s16v hW
  unfold C_setValue3 at hW
  refine pq_l (pc' := 1) rfl rfl rfl rfl rfl ?_
  refine pq_gr (pc' := 4) (c := 561) (v := 561) rfl rfl rfl rfl rfl rfl hv ?_
  refine pq_l (pc' := 5) rfl rfl rfl rfl rfl ?_
  refine pq_cVV (pc' := 8) rfl rfl rfl rfl rfl (c_copy1 L ys d s hv 561 (⟨by decide, by decide⟩ : nb 561) l3 _ hW) (fun s18 hr => ?_)
  obtain ⟨s18v, hW⟩ := hr
  refine pq_l (pc' := 9) rfl rfl rfl rfl rfl ?_
  refine pq_gr (pc' := 12) (c := 561) (v := 561) rfl rfl rfl rfl rfl rfl s18v ?_
  refine pq_l (pc' := 14) rfl rfl rfl rfl rfl ?_
  refine pq_ineg (pc' := 15) rfl rfl ?_
  refine pq_cVV (pc' := 18) rfl rfl rfl rfl rfl (c_shiftUp1 L ys d s18 s18v 561 (⟨by decide, by decide⟩ : nb 561) (w32 (-l4)) (w32_r _) _ hW) (fun s20 hr => ?_)
  obtain ⟨s20v, hW⟩ := hr
  refine pq_l (pc' := 19) rfl rfl rfl rfl rfl ?_
  refine pq_l (pc' := 20) rfl rfl rfl rfl rfl ?_
  refine pq_cVI (pc' := 23) rfl rfl rfl rfl rfl (c_lead6 L ys d s20 s20v l2 _ hW) (fun z23 s22 hr => ?_)
  obtain ⟨s22v, z23r, hW⟩ := hr
  refine pq_cVV (pc' := 26) rfl rfl rfl rfl rfl (c_set1 L ys d s22 s22v l1 l1n z23 z23r _ hW) (fun s24 hr => ?_)
  obtain ⟨s24v, hW⟩ := hr
  refine pq_l (pc' := 27) rfl rfl rfl rfl rfl ?_
  refine pq_gi (pc' := 30) rfl rfl rfl rfl rfl (fun r26 => ?_)
  refine pq_k (pc' := 31) (v := (0, 1)) rfl rfl rfl (fun _ => rfl) ?_
  refine pq_sub (pc' := 32) rfl rfl ?_
  refine pq_s (pc' := 34) rfl rfl rfl rfl rfl ?_
  refine pq_w [(0, (2, ((83 : Nat) : Int))), (1, (2, ((l1 : Nat) : Int))), (2, (2, ((l2 : Nat) : Int))), (4, (0, l4)), (5, (0, (w32 ((cgf s24 l2 0) - 1))))] ⟨rfl, rfl, rfl, rfl, rfl, trivial⟩ ?_
  obtain ⟨I9, hI9, hB9⟩ := hW
  exact J34 l1 l1n l2 l4 l4r I9 hB9 N (by omega) (w32 ((cgf s24 l2 0) - 1)) (w32_r _) s24 s24v hI9
def C_J9_abs_0f7a4 (l0 : Int) (s : im_S) (Q : Int → im_S → Prop) : Prop := (∀ v201 : Int, v201 = (if 0 ≤ l0 then l0 else (w32 (-l0))) → (Q v201 s))
set_option maxRecDepth 16384 in
theorem c_J9_abs_0f7a4 (L : Nat) (ys : Nat → Int32) (d : Nat) (s : im_S) (hv : jI s) (l0 : Int) (l0r : iR l0) (Q : Int → im_S → Prop) (hW : C_J9_abs_0f7a4 l0 s Q) : pcI L ys 0 d 237 [(0, l0)] s (fun z9 s9 => jI s9 ∧ iR z9 ∧ Q z9 s9) := by
  intro res hres
  refine pq_start (M := rm_p_J9_abs_0f7a4) (Q := (fun r : im_Re => ∃ z, r.1 = some (0, z) ∧ (jI r.2 ∧ iR z ∧ Q z r.2))) om_J9_abs_0f7a4 (fun d N => ?_) res hres
  refine pq_w [(0, (0, l0))] ⟨rfl, trivial⟩ ?_
  unfold C_J9_abs_0f7a4 at hW
  refine pq_l (pc' := 1) rfl rfl rfl rfl rfl ?_
  have J202 : ∀ v201 : Int, iR v201 → ((Q v201 s)) → pq L ys d N rm_p_J9_abs_0f7a4 (10, [], [(0, v201)], s) (fun r : im_Re => ∃ z, r.1 = some (0, z) ∧ (jI r.2 ∧ iR z ∧ Q z r.2)) := by
    intro v201 v201r hW
    exact pq_iret rfl ⟨_, rfl, hv, v201r, hW⟩
  refine pq_z_ge (pt := 9) (pc' := 4) rfl rfl rfl (fun c1 => ?_) (fun c1 => ?_)
  · refine pq_l (pc' := 10) rfl rfl rfl rfl rfl ?_
    refine pq_w [] trivial ?_
    exact J202 l0 l0r (hW _ (by rw [if_pos c1]))
  · refine pq_l (pc' := 5) rfl rfl rfl rfl rfl ?_
    refine pq_ineg (pc' := 6) rfl rfl ?_
    refine pq_goto (pc' := 10) rfl rfl ?_
    refine pq_w [] trivial ?_
    exact J202 (w32 (-l0)) (w32_r _) (hW _ (by rw [if_neg (fun z => c1 z)]))
def C_guessJump3_249 (s : im_S) (Q : im_S → Prop) : Prop := (Q s)
def C_guessJump3_210 (l1 : Int) (s : im_S) (Q : im_S → Prop) : Prop := (C_bits1 559 s (fun z2 s1 => ((z2 ≤ l1 → (C_guessJump3_249 s1 Q)) ∧ (¬ (z2 ≤ l1) → (C_set1 559 1 s1 (fun s4 => (C_shiftUp1 559 l1 s4 (fun s6 => (C_add1 559 553 (-1) s6 (fun s8 => (C_guessJump3_249 s8 Q)))))))))))
def C_guessJump3_166 (K107 : Int × im_S → Prop) (l1 : Int) (l3 : Int) (s : im_S) (Q : im_S → Prop) : Prop := (K107 ((w32 (l3 + 1)), s))
def C_guessJump3_107 (K107 : Int × im_S → Prop) (l1 : Int) (l3 : Int) (s : im_S) (Q : im_S → Prop) : Prop := ((l1 < l3 → (C_add1 559 553 1 s (fun s12 => (C_shiftDown1 559 1 s12 (fun s14 => ((¬ ((cgf s14 559 2) = 0) → (C_guessJump3_210 l1 s14 Q)) ∧ ((cgf s14 559 2) = 0 → (C_set1 559 1 s14 (fun s18 => (C_guessJump3_210 l1 s18 Q)))))))))) ∧ (¬ (l1 < l3) → (C_shiftUp1 563 1 s (fun s20 => (C_shiftUp1 559 1 s20 (fun s22 => (C_compareSize1 563 565 s22 (fun z25 s24 => ((z25 < 0 → (C_guessJump3_166 K107 l1 l3 s24 Q)) ∧ (¬ (z25 < 0) → (C_add1 563 565 (-1) s24 (fun s27 => (C_add1 559 553 1 s27 (fun s29 => (C_guessJump3_166 K107 l1 l3 s29 Q)))))))))))))))
def C_guessJump3 (l1 : Int) (s : im_S) (Q : im_S → Prop) : Prop := (C_copy1 563 (crf s 83 13) s (fun s31 => (C_copy1 565 (crf s31 83 14) s31 (fun s33 => (C_J9_abs_0f7a4 (cgf s33 563 2) s33 (fun z37 s36 => (∀ s38, s38 = cpf s36 563 2 z37 → (C_J9_abs_0f7a4 (cgf s38 565 2) s38 (fun z41 s40 => (∀ s42, s42 = cpf s40 565 2 z41 → (C_add1 565 563 1 s42 (fun s43 => (C_bits1 565 s43 (fun z46 s45 => (C_shiftDown1 563 (w32 ((w32 (z46 - l1)) - 32)) s45 (fun s47 => (C_shiftDown1 565 (w32 ((w32 (z46 - l1)) - 32)) s47 (fun s49 => (C_set1 559 0 s49 (fun s51 => (ploop (fun (K : Int × im_S → Prop) (a : Int × im_S) => C_guessJump3_107 K l1 a.1 a.2 Q) (0, s51))))))))))))))))))))))
set_option maxRecDepth 16384 in
theorem c_guessJump3 (L : Nat) (ys : Nat → Int32) (d : Nat) (s : im_S) (hv : jI s) (l1 : Int) (l1r : iR l1) (Q : im_S → Prop) (hW : C_guessJump3 l1 s Q) : pcV L ys d 135 [(2, ((83 : Nat) : Int)), (0, l1)] s (fun s9 => jI s9 ∧ Q s9) := by
  intro res hres
  refine pq_start (M := rm_p_X3_guessJump) (Q := (fun r : im_Re => r.1 = none ∧ (jI r.2 ∧ Q r.2))) om_X3_guessJump (fun d N => ?_) res hres
  refine pq_w [(0, (2, ((83 : Nat) : Int))), (1, (0, l1))] ⟨rfl, rfl, trivial⟩ ?_
  have J249 : ∀ N249 : Nat, N249 ≤ N → ∀ (s : im_S) (hv : jI s), C_guessJump3_249 s Q → pq L ys d N249 rm_p_X3_guessJump (249, [], [], s) (fun r : im_Re => r.1 = none ∧ (jI r.2 ∧ Q r.2)) := by
    intro N249 hN249 s hv hW
    unfold C_guessJump3_249 at hW
    exact pq_vret rfl ⟨rfl, hv, hW⟩
  have J210 : ∀ N210 : Nat, N210 ≤ N → ∀ (l1 : Int) (l1r : iR l1) (s : im_S) (hv : jI s), C_guessJump3_210 l1 s Q → pq L ys d N210 rm_p_X3_guessJump (210, [(0, (2, ((83 : Nat) : Int))), (1, (0, l1))], [], s) (fun r : im_Re => r.1 = none ∧ (jI r.2 ∧ Q r.2)) := by
    intro N210 hN210 l1 l1r s hv hW
    unfold C_guessJump3_210 at hW
    refine pq_l (pc' := 211) rfl rfl rfl rfl rfl ?_
    refine pq_gr (pc' := 214) (c := 559) (v := 559) rfl rfl rfl rfl rfl rfl hv ?_
    refine pq_cVI (pc' := 217) rfl rfl rfl rfl rfl (c_bits1 L ys d s hv 559 _ hW) (fun z2 s1 hr => ?_)
    obtain ⟨s1v, z2r, hW⟩ := hr
    refine pq_l (pc' := 218) rfl rfl rfl rfl rfl ?_
    refine pq_c_le (pt := 249) (pc' := 221) rfl rfl rfl (fun c3 => ?_) (fun c3 => ?_)
    · have hW := hW.1 c3
      refine pq_w [] trivial ?_
      exact J249 N210 (by omega) s1 s1v hW
    · have hW := hW.2 c3
      refine pq_l (pc' := 222) rfl rfl rfl rfl rfl ?_
      refine pq_gr (pc' := 225) (c := 559) (v := 559) rfl rfl rfl rfl rfl rfl s1v ?_
      refine pq_k (pc' := 226) (v := (1, 1)) rfl rfl rfl (fun _ => rfl) ?_
      refine pq_cVV (pc' := 229) rfl rfl rfl rfl rfl (c_set1 L ys d s1 s1v 559 (⟨by decide, by decide⟩ : nb 559) 1 (⟨by decide, by decide⟩ : lR 1) _ hW) (fun s4 hr => ?_)
      obtain ⟨s4v, hW⟩ := hr
      refine pq_l (pc' := 230) rfl rfl rfl rfl rfl ?_
      refine pq_gr (pc' := 233) (c := 559) (v := 559) rfl rfl rfl rfl rfl rfl s4v ?_
      refine pq_l (pc' := 234) rfl rfl rfl rfl rfl ?_
      refine pq_cVV (pc' := 237) rfl rfl rfl rfl rfl (c_shiftUp1 L ys d s4 s4v 559 (⟨by decide, by decide⟩ : nb 559) l1 l1r _ hW) (fun s6 hr => ?_)
      obtain ⟨s6v, hW⟩ := hr
      refine pq_l (pc' := 238) rfl rfl rfl rfl rfl ?_
      refine pq_gr (pc' := 241) (c := 559) (v := 559) rfl rfl rfl rfl rfl rfl s6v ?_
      refine pq_l (pc' := 242) rfl rfl rfl rfl rfl ?_
      refine pq_gr (pc' := 245) (c := 553) (v := 553) rfl rfl rfl rfl rfl rfl s6v ?_
      refine pq_k (pc' := 246) (v := (0, (-1))) rfl rfl rfl (fun _ => rfl) ?_
      refine pq_cVV (pc' := 249) rfl rfl rfl rfl rfl (c_add1 L ys d s6 s6v 559 (⟨by decide, by decide⟩ : nb 559) 553 (-1) (⟨by decide, by decide⟩ : iR (-1)) _ hW) (fun s8 hr => ?_)
      obtain ⟨s8v, hW⟩ := hr
      refine pq_w [] trivial ?_
      exact J249 N210 (by omega) s8 s8v hW
  have J107 : ∀ (l1 : Int) (l1r : iR l1) (I107 : Int × im_S → Prop) (hB107 : ∀ a : Int × im_S, I107 a → C_guessJump3_107 I107 l1 a.1 a.2 Q), ∀ N107 : Nat, N107 ≤ N → ∀ (l3 : Int) (l3r : iR l3) (s : im_S) (hv : jI s), I107 (l3, s) → pq L ys d N107 rm_p_X3_guessJump (107, [(0, (2, ((83 : Nat) : Int))), (1, (0, l1)), (3, (0, l3))], [], s) (fun r : im_Re => r.1 = none ∧ (jI r.2 ∧ Q r.2)) := by
    intro l1 l1r I107 hB107 N107
    induction N107 using Nat.strongRecOn with
    | _ N107 ih107 =>
      intro hN107 l3 l3r s hv hI
      have hW : C_guessJump3_107 I107 l1 l3 s Q := hB107 (l3, s) hI
      have J166 : ∀ N166 : Nat, N166 ≤ N107 → ∀ (l3 : Int) (l3r : iR l3) (s : im_S) (hv : jI s), C_guessJump3_166 I107 l1 l3 s Q → pq L ys d N166 rm_p_X3_guessJump (166, [(0, (2, ((83 : Nat) : Int))), (1, (0, l1)), (3, (0, l3))], [], s) (fun r : im_Re => r.1 = none ∧ (jI r.2 ∧ Q r.2)) := by
        intro N166 hN166 l3 l3r s hv hW
        unfold C_guessJump3_166 at hW
        refine pq_inc (pc' := 169) rfl rfl rfl rfl ?_
        refine pq_gotoT (pc' := 107) rfl rfl (fun m10 m10l => ?_)
        refine pq_w [(0, (2, ((83 : Nat) : Int))), (1, (0, l1)), (3, (0, (w32 (l3 + 1))))] ⟨rfl, rfl, rfl, trivial⟩ ?_
        exact ih107 m10 (by omega) (by omega) (w32 (l3 + 1)) (w32_r _) s hv hW
      unfold C_guessJump3_107 at hW
      refine pq_l (pc' := 108) rfl rfl rfl rfl rfl ?_
      refine pq_l (pc' := 109) rfl rfl rfl rfl rfl ?_
      refine pq_c_gt (pt := 172) (pc' := 112) rfl rfl rfl (fun c11 => ?_) (fun c11 => ?_)
      · have hW := hW.1 c11
        refine pq_l (pc' := 173) rfl rfl rfl rfl rfl ?_
        refine pq_gr (pc' := 176) (c := 559) (v := 559) rfl rfl rfl rfl rfl rfl hv ?_
        refine pq_l (pc' := 177) rfl rfl rfl rfl rfl ?_
        refine pq_gr (pc' := 180) (c := 553) (v := 553) rfl rfl rfl rfl rfl rfl hv ?_
        refine pq_k (pc' := 181) (v := (0, 1)) rfl rfl rfl (fun _ => rfl) ?_
        refine pq_cVV (pc' := 184) rfl rfl rfl rfl rfl (c_add1 L ys d s hv 559 (⟨by decide, by decide⟩ : nb 559) 553 1 (⟨by decide, by decide⟩ : iR 1) _ hW) (fun s12 hr => ?_)
        obtain ⟨s12v, hW⟩ := hr
        refine pq_l (pc' := 185) rfl rfl rfl rfl rfl ?_
        refine pq_gr (pc' := 188) (c := 559) (v := 559) rfl rfl rfl rfl rfl rfl s12v ?_
        refine pq_k (pc' := 189) (v := (0, 1)) rfl rfl rfl (fun _ => rfl) ?_
        refine pq_cVV (pc' := 192) rfl rfl rfl rfl rfl (c_shiftDown1 L ys d s12 s12v 559 (⟨by decide, by decide⟩ : nb 559) 1 (⟨by decide, by decide⟩ : iR 1) _ hW) (fun s14 hr => ?_)
        obtain ⟨s14v, hW⟩ := hr
        refine pq_l (pc' := 193) rfl rfl rfl rfl rfl ?_
        refine pq_gr (pc' := 196) (c := 559) (v := 559) rfl rfl rfl rfl rfl rfl s14v ?_
        refine pq_gi (pc' := 199) rfl rfl rfl rfl rfl (fun r16 => ?_)
        refine pq_z_ne (pt := 210) (pc' := 202) rfl rfl rfl (fun c17 => ?_) (fun c17 => ?_)
        · have hW := hW.1 c17
          refine pq_w [(0, (2, ((83 : Nat) : Int))), (1, (0, l1))] ⟨rfl, rfl, trivial⟩ ?_
          exact J210 N107 (by omega) l1 l1r s14 s14v hW
        · have hW := hW.2 c17
          refine pq_l (pc' := 203) rfl rfl rfl rfl rfl ?_
          refine pq_gr (pc' := 206) (c := 559) (v := 559) rfl rfl rfl rfl rfl rfl s14v ?_
          refine pq_k (pc' := 207) (v := (1, 1)) rfl rfl rfl (fun _ => rfl) ?_
          refine pq_cVV (pc' := 210) rfl rfl rfl rfl rfl (c_set1 L ys d s14 s14v 559 (⟨by decide, by decide⟩ : nb 559) 1 (⟨by decide, by decide⟩ : lR 1) _ hW) (fun s18 hr => ?_)
          obtain ⟨s18v, hW⟩ := hr
          refine pq_w [(0, (2, ((83 : Nat) : Int))), (1, (0, l1))] ⟨rfl, rfl, trivial⟩ ?_
          exact J210 N107 (by omega) l1 l1r s18 s18v hW
      · have hW := hW.2 c11
        refine pq_l (pc' := 113) rfl rfl rfl rfl rfl ?_
        refine pq_gr (pc' := 116) (c := 563) (v := 563) rfl rfl rfl rfl rfl rfl hv ?_
        refine pq_k (pc' := 117) (v := (0, 1)) rfl rfl rfl (fun _ => rfl) ?_
        refine pq_cVV (pc' := 120) rfl rfl rfl rfl rfl (c_shiftUp1 L ys d s hv 563 (⟨by decide, by decide⟩ : nb 563) 1 (⟨by decide, by decide⟩ : iR 1) _ hW) (fun s20 hr => ?_)
        obtain ⟨s20v, hW⟩ := hr
        refine pq_l (pc' := 121) rfl rfl rfl rfl rfl ?_
        refine pq_gr (pc' := 124) (c := 559) (v := 559) rfl rfl rfl rfl rfl rfl s20v ?_
        refine pq_k (pc' := 125) (v := (0, 1)) rfl rfl rfl (fun _ => rfl) ?_
        refine pq_cVV (pc' := 128) rfl rfl rfl rfl rfl (c_shiftUp1 L ys d s20 s20v 559 (⟨by decide, by decide⟩ : nb 559) 1 (⟨by decide, by decide⟩ : iR 1) _ hW) (fun s22 hr => ?_)
        obtain ⟨s22v, hW⟩ := hr
        refine pq_l (pc' := 129) rfl rfl rfl rfl rfl ?_
        refine pq_gr (pc' := 132) (c := 563) (v := 563) rfl rfl rfl rfl rfl rfl s22v ?_
        refine pq_l (pc' := 133) rfl rfl rfl rfl rfl ?_
        refine pq_gr (pc' := 136) (c := 565) (v := 565) rfl rfl rfl rfl rfl rfl s22v ?_
        refine pq_cVI (pc' := 139) rfl rfl rfl rfl rfl (c_compareSize1 L ys d s22 s22v 563 565 _ hW) (fun z25 s24 hr => ?_)
        obtain ⟨s24v, z25r, hW⟩ := hr
        refine pq_z_lt (pt := 166) (pc' := 142) rfl rfl rfl (fun c26 => ?_) (fun c26 => ?_)
        · have hW := hW.1 c26
          refine pq_w [(0, (2, ((83 : Nat) : Int))), (1, (0, l1)), (3, (0, l3))] ⟨rfl, rfl, rfl, trivial⟩ ?_
          exact J166 N107 (by omega) l3 l3r s24 s24v hW
        · have hW := hW.2 c26
          refine pq_l (pc' := 143) rfl rfl rfl rfl rfl ?_
          refine pq_gr (pc' := 146) (c := 563) (v := 563) rfl rfl rfl rfl rfl rfl s24v ?_
          refine pq_l (pc' := 147) rfl rfl rfl rfl rfl ?_
          refine pq_gr (pc' := 150) (c := 565) (v := 565) rfl rfl rfl rfl rfl rfl s24v ?_
          refine pq_k (pc' := 151) (v := (0, (-1))) rfl rfl rfl (fun _ => rfl) ?_
          refine pq_cVV (pc' := 154) rfl rfl rfl rfl rfl (c_add1 L ys d s24 s24v 563 (⟨by decide, by decide⟩ : nb 563) 565 (-1) (⟨by decide, by decide⟩ : iR (-1)) _ hW) (fun s27 hr => ?_)
          obtain ⟨s27v, hW⟩ := hr
          refine pq_l (pc' := 155) rfl rfl rfl rfl rfl ?_
          refine pq_gr (pc' := 158) (c := 559) (v := 559) rfl rfl rfl rfl rfl rfl s27v ?_
          refine pq_l (pc' := 159) rfl rfl rfl rfl rfl ?_
          refine pq_gr (pc' := 162) (c := 553) (v := 553) rfl rfl rfl rfl rfl rfl s27v ?_
          refine pq_k (pc' := 163) (v := (0, 1)) rfl rfl rfl (fun _ => rfl) ?_
          refine pq_cVV (pc' := 166) rfl rfl rfl rfl rfl (c_add1 L ys d s27 s27v 559 (⟨by decide, by decide⟩ : nb 559) 553 1 (⟨by decide, by decide⟩ : iR 1) _ hW) (fun s29 hr => ?_)
          obtain ⟨s29v, hW⟩ := hr
          refine pq_w [(0, (2, ((83 : Nat) : Int))), (1, (0, l1)), (3, (0, l3))] ⟨rfl, rfl, rfl, trivial⟩ ?_
          exact J166 N107 (by omega) l3 l3r s29 s29v hW
  unfold C_guessJump3 at hW
  refine pq_l (pc' := 1) rfl rfl rfl rfl rfl ?_
  refine pq_gr (pc' := 4) (c := 563) (v := 563) rfl rfl rfl rfl rfl rfl hv ?_
  refine pq_l (pc' := 5) rfl rfl rfl rfl rfl ?_
  refine pq_gm (pc' := 8) rfl rfl rfl rfl (jI_m0 hv).1 ?_
  refine pq_cVV (pc' := 11) rfl rfl rfl rfl rfl (c_copy1 L ys d s hv 563 (⟨by decide, by decide⟩ : nb 563) (crf s 83 13) _ hW) (fun s31 hr => ?_)
  obtain ⟨s31v, hW⟩ := hr
  refine pq_l (pc' := 12) rfl rfl rfl rfl rfl ?_
  refine pq_gr (pc' := 15) (c := 565) (v := 565) rfl rfl rfl rfl rfl rfl s31v ?_
  refine pq_l (pc' := 16) rfl rfl rfl rfl rfl ?_
  refine pq_gm (pc' := 19) rfl rfl rfl rfl (jI_m0 s31v).2.1 ?_
  refine pq_cVV (pc' := 22) rfl rfl rfl rfl rfl (c_copy1 L ys d s31 s31v 565 (⟨by decide, by decide⟩ : nb 565) (crf s31 83 14) _ hW) (fun s33 hr => ?_)
  obtain ⟨s33v, hW⟩ := hr
  refine pq_l (pc' := 23) rfl rfl rfl rfl rfl ?_
  refine pq_gr (pc' := 26) (c := 563) (v := 563) rfl rfl rfl rfl rfl rfl s33v ?_
  refine pq_l (pc' := 27) rfl rfl rfl rfl rfl ?_
  refine pq_gr (pc' := 30) (c := 563) (v := 563) rfl rfl rfl rfl rfl rfl s33v ?_
  refine pq_gi (pc' := 33) rfl rfl rfl rfl rfl (fun r35 => ?_)
  refine pq_cSI (pc' := 36) rfl rfl rfl rfl rfl (c_J9_abs_0f7a4 L ys d s33 s33v (cgf s33 563 2) r35 _ hW) (fun z37 s36 hr => ?_)
  obtain ⟨s36v, z37r, hW⟩ := hr
  refine pq_pB (pc' := 39) rfl rfl rfl (⟨by decide, by decide⟩ : nb 563) s36v (fun s38 s38e s38v => ?_)
  have hW := hW s38 s38e
  refine pq_l (pc' := 40) rfl rfl rfl rfl rfl ?_
  refine pq_gr (pc' := 43) (c := 565) (v := 565) rfl rfl rfl rfl rfl rfl s38v ?_
  refine pq_l (pc' := 44) rfl rfl rfl rfl rfl ?_
  refine pq_gr (pc' := 47) (c := 565) (v := 565) rfl rfl rfl rfl rfl rfl s38v ?_
  refine pq_gi (pc' := 50) rfl rfl rfl rfl rfl (fun r39 => ?_)
  refine pq_cSI (pc' := 53) rfl rfl rfl rfl rfl (c_J9_abs_0f7a4 L ys d s38 s38v (cgf s38 565 2) r39 _ hW) (fun z41 s40 hr => ?_)
  obtain ⟨s40v, z41r, hW⟩ := hr
  refine pq_pB (pc' := 56) rfl rfl rfl (⟨by decide, by decide⟩ : nb 565) s40v (fun s42 s42e s42v => ?_)
  have hW := hW s42 s42e
  refine pq_l (pc' := 57) rfl rfl rfl rfl rfl ?_
  refine pq_gr (pc' := 60) (c := 565) (v := 565) rfl rfl rfl rfl rfl rfl s42v ?_
  refine pq_l (pc' := 61) rfl rfl rfl rfl rfl ?_
  refine pq_gr (pc' := 64) (c := 563) (v := 563) rfl rfl rfl rfl rfl rfl s42v ?_
  refine pq_k (pc' := 65) (v := (0, 1)) rfl rfl rfl (fun _ => rfl) ?_
  refine pq_cVV (pc' := 68) rfl rfl rfl rfl rfl (c_add1 L ys d s42 s42v 565 (⟨by decide, by decide⟩ : nb 565) 563 1 (⟨by decide, by decide⟩ : iR 1) _ hW) (fun s43 hr => ?_)
  obtain ⟨s43v, hW⟩ := hr
  refine pq_l (pc' := 69) rfl rfl rfl rfl rfl ?_
  refine pq_gr (pc' := 72) (c := 565) (v := 565) rfl rfl rfl rfl rfl rfl s43v ?_
  refine pq_cVI (pc' := 75) rfl rfl rfl rfl rfl (c_bits1 L ys d s43 s43v 565 _ hW) (fun z46 s45 hr => ?_)
  obtain ⟨s45v, z46r, hW⟩ := hr
  refine pq_l (pc' := 76) rfl rfl rfl rfl rfl ?_
  refine pq_sub (pc' := 77) rfl rfl ?_
  refine pq_k (pc' := 79) (v := (0, 32)) rfl rfl rfl (fun _ => rfl) ?_
  refine pq_sub (pc' := 80) rfl rfl ?_
  refine pq_s (pc' := 81) rfl rfl rfl rfl rfl ?_
  refine pq_l (pc' := 82) rfl rfl rfl rfl rfl ?_
  refine pq_gr (pc' := 85) (c := 563) (v := 563) rfl rfl rfl rfl rfl rfl s45v ?_
  refine pq_l (pc' := 86) rfl rfl rfl rfl rfl ?_
  refine pq_cVV (pc' := 89) rfl rfl rfl rfl rfl (c_shiftDown1 L ys d s45 s45v 563 (⟨by decide, by decide⟩ : nb 563) (w32 ((w32 (z46 - l1)) - 32)) (w32_r _) _ hW) (fun s47 hr => ?_)
  obtain ⟨s47v, hW⟩ := hr
  refine pq_l (pc' := 90) rfl rfl rfl rfl rfl ?_
  refine pq_gr (pc' := 93) (c := 565) (v := 565) rfl rfl rfl rfl rfl rfl s47v ?_
  refine pq_l (pc' := 94) rfl rfl rfl rfl rfl ?_
  refine pq_cVV (pc' := 97) rfl rfl rfl rfl rfl (c_shiftDown1 L ys d s47 s47v 565 (⟨by decide, by decide⟩ : nb 565) (w32 ((w32 (z46 - l1)) - 32)) (w32_r _) _ hW) (fun s49 hr => ?_)
  obtain ⟨s49v, hW⟩ := hr
  refine pq_l (pc' := 98) rfl rfl rfl rfl rfl ?_
  refine pq_gr (pc' := 101) (c := 559) (v := 559) rfl rfl rfl rfl rfl rfl s49v ?_
  refine pq_k (pc' := 102) (v := (1, 0)) rfl rfl rfl (fun _ => rfl) ?_
  refine pq_cVV (pc' := 105) rfl rfl rfl rfl rfl (c_set1 L ys d s49 s49v 559 (⟨by decide, by decide⟩ : nb 559) 0 (⟨by decide, by decide⟩ : lR 0) _ hW) (fun s51 hr => ?_)
  obtain ⟨s51v, hW⟩ := hr
  refine pq_k (pc' := 106) (v := (0, 0)) rfl rfl rfl (fun _ => rfl) ?_
  refine pq_s (pc' := 107) rfl rfl rfl rfl rfl ?_
  refine pq_w [(0, (2, ((83 : Nat) : Int))), (1, (0, l1)), (3, (0, 0))] ⟨rfl, rfl, rfl, trivial⟩ ?_
  obtain ⟨I9, hI9, hB9⟩ := hW
  exact J107 l1 l1r I9 hB9 N (by omega) 0 (⟨by decide, by decide⟩ : iR 0) s51 s51v hI9
def C_take3_84 (l1 : Nat) (l2 : Int) (l3 : Int) (l4 : Int) (l5 : Int) (k1 : Int) (s : im_S) (Q : im_S → Prop) : Prop := (∀ s1, s1 = cpf s l1 8 k1 → ((¬ (l5 = 0) → (∀ s4, s4 = cpf s1 l1 7 (w32 ((cgf s1 l1 7) + l2)) → (∀ s5, s5 = cpf s4 l1 1 l4 → (∀ v206 : Int, v206 = (if l4 = 0 then l3 else (if ¬ ((cgf s5 (crf s5 83 15) 2) = 0) then 0 else 1)) → (∀ v408 : Nat, v408 = (if v206 = 0 then 557 else 555) → (C_copy1 (l1 + 1) v408 s5 (fun s410 => (∀ v612 : Nat, v612 = (if l3 = 0 then (crf s410 83 16) else (crf s410 83 15)) → (∀ s614, s614 = cpf s410 83 13 ((v612 : Nat) : Int) → (∀ v815 : Nat, v815 = (if l3 = 0 then (crf s614 83 15) else (crf s614 83 16)) → (∀ s817, s817 = cpf s614 83 14 ((v815 : Nat) : Int) → (∀ s818, s818 = cpf s817 83 15 (((crf s410 83 13) : Nat) : Int) → (∀ s819, s819 = cpf s818 83 16 (((crf s410 83 14) : Nat) : Int) → (Q s819)))))))))))))) ∧ (l5 = 0 → (Q s1))))
def C_take3 (l1 : Nat) (l2 : Int) (l3 : Int) (s : im_S) (Q : im_S → Prop) : Prop := (∀ v1021 : Int, v1021 = (if (cgf s (crf s 83 15) 2) = 0 then 1 else (if ¬ ((cgf s (crf s 83 16) 2) = 0) then 0 else 1)) → (∀ v1223 : Int, v1223 = (if ¬ (v1021 = 0) then 1 else (if (cgf s (crf s 83 16) 2) = (cgf s (crf s 83 13) 2) then (if ¬ (l3 = 0) then 0 else 1) else (if ¬ (l3 = 1) then 0 else 1))) → ((v1223 = 0 → (C_J9_max_7cf53 1 (divI l2 2) s (fun z1227 s1226 => (C_take3_84 l1 l2 l3 v1021 v1223 z1227 s1226 Q)))) ∧ (¬ (v1223 = 0) → (C_take3_84 l1 l2 l3 v1021 v1223 (w32 (l2 * 2)) s Q)))))
set_option maxRecDepth 16384 in
theorem c_take3 (L : Nat) (ys : Nat → Int32) (d : Nat) (s : im_S) (hv : jI s) (l1 : Nat) (l1n : nb (l1 + 1)) (l2 : Int) (l2r : iR l2) (l3 : Int) (l3r : iR l3) (Q : im_S → Prop) (hW : C_take3 l1 l2 l3 s Q) : pcV L ys d 146 [(2, ((83 : Nat) : Int)), (2, ((l1 : Nat) : Int)), (0, l2), (0, l3)] s (fun s9 => jI s9 ∧ Q s9) := by
  intro res hres
  refine pq_start (M := rm_p_X3_take) (Q := (fun r : im_Re => r.1 = none ∧ (jI r.2 ∧ Q r.2))) om_X3_take (fun d N => ?_) res hres
  refine pq_w [(0, (2, ((83 : Nat) : Int))), (1, (2, ((l1 : Nat) : Int))), (2, (0, l2)), (3, (0, l3))] ⟨rfl, rfl, rfl, rfl, trivial⟩ ?_
  have J84 : ∀ N84 : Nat, N84 ≤ N → ∀ (l1 : Nat) (l1n : nb (l1 + 1)) (l2 : Int) (l2r : iR l2) (l3 : Int) (l3r : iR l3) (l4 : Int) (l4r : iR l4) (l5 : Int) (l5r : iR l5) (k1 : Int) (k1r : iR k1) (s : im_S) (hv : jI s), C_take3_84 l1 l2 l3 l4 l5 k1 s Q → pq L ys d N84 rm_p_X3_take (84, [(0, (2, ((83 : Nat) : Int))), (1, (2, ((l1 : Nat) : Int))), (2, (0, l2)), (3, (0, l3)), (4, (0, l4)), (5, (0, l5))], [(0, k1), (2, ((l1 : Nat) : Int))], s) (fun r : im_Re => r.1 = none ∧ (jI r.2 ∧ Q r.2)) := by
    intro N84 hN84 l1 l1n l2 l2r l3 l3r l4 l4r l5 l5r k1 k1r s hv hW
    unfold C_take3_84 at hW
    refine pq_pX (pc' := 87) rfl rfl rfl rfl (fun e => absurd e (by decide)) (fun e => absurd e (by decide)) hv (fun s1 s1e s1v => ?_)
    have hW := hW s1 s1e
    refine pq_l (pc' := 89) rfl rfl rfl rfl rfl ?_
    refine pq_z_ne (pt := 93) (pc' := 92) rfl rfl rfl (fun c2 => ?_) (fun c2 => ?_)
    · have hW := hW.1 c2
      refine pq_l (pc' := 94) rfl rfl rfl rfl rfl ?_
      refine pq_x (pc' := 95) rfl rfl rfl (fun _ => rfl) ?_
      refine pq_gi (pc' := 98) rfl rfl rfl rfl rfl (fun r3 => ?_)
      refine pq_l (pc' := 99) rfl rfl rfl rfl rfl ?_
      refine pq_add (pc' := 100) rfl rfl ?_
      refine pq_pX (pc' := 103) rfl rfl rfl rfl (fun e => absurd e (by decide)) (fun e => absurd e (by decide)) s1v (fun s4 s4e s4v => ?_)
      have hW := hW s4 s4e
      refine pq_l (pc' := 104) rfl rfl rfl rfl rfl ?_
      refine pq_l (pc' := 106) rfl rfl rfl rfl rfl ?_
      refine pq_pX (pc' := 109) rfl rfl rfl rfl (fun e => absurd e (by decide)) (fun e => absurd e (by decide)) s4v (fun s5 s5e s5v => ?_)
      have hW := hW s5 s5e
      refine pq_l (pc' := 111) rfl rfl rfl rfl rfl ?_
      have J207 : ∀ v206 : Int, iR v206 → ((∀ v408 : Nat, v408 = (if v206 = 0 then 557 else 555) → (C_copy1 (l1 + 1) v408 s5 (fun s410 => (∀ v612 : Nat, v612 = (if l3 = 0 then (crf s410 83 16) else (crf s410 83 15)) → (∀ s614, s614 = cpf s410 83 13 ((v612 : Nat) : Int) → (∀ v815 : Nat, v815 = (if l3 = 0 then (crf s614 83 15) else (crf s614 83 16)) → (∀ s817, s817 = cpf s614 83 14 ((v815 : Nat) : Int) → (∀ s818, s818 = cpf s817 83 15 (((crf s410 83 13) : Nat) : Int) → (∀ s819, s819 = cpf s818 83 16 (((crf s410 83 14) : Nat) : Int) → (Q s819))))))))))) → pq L ys d N84 rm_p_X3_take (133, [(0, (2, ((83 : Nat) : Int))), (1, (2, ((l1 : Nat) : Int))), (3, (0, l3))], [(0, v206)], s5) (fun r : im_Re => r.1 = none ∧ (jI r.2 ∧ Q r.2)) := by
        intro v206 v206r hW
        refine pq_s (pc' := 135) rfl rfl rfl rfl rfl ?_
        refine pq_l (pc' := 136) rfl rfl rfl rfl rfl ?_
        refine pq_gr (pc' := 139) (c := (l1 + 1)) (v := 0) rfl rfl rfl rfl rfl rfl s5v ?_
        refine pq_l (pc' := 141) rfl rfl rfl rfl rfl ?_
        have J409 : ∀ v408 : Nat, ((C_copy1 (l1 + 1) v408 s5 (fun s410 => (∀ v612 : Nat, v612 = (if l3 = 0 then (crf s410 83 16) else (crf s410 83 15)) → (∀ s614, s614 = cpf s410 83 13 ((v612 : Nat) : Int) → (∀ v815 : Nat, v815 = (if l3 = 0 then (crf s614 83 15) else (crf s614 83 16)) → (∀ s817, s817 = cpf s614 83 14 ((v815 : Nat) : Int) → (∀ s818, s818 = cpf s817 83 15 (((crf s410 83 13) : Nat) : Int) → (∀ s819, s819 = cpf s818 83 16 (((crf s410 83 14) : Nat) : Int) → (Q s819)))))))))) → pq L ys d N84 rm_p_X3_take (155, [(0, (2, ((83 : Nat) : Int))), (3, (0, l3))], [(2, ((v408 : Nat) : Int)), (2, (((l1 + 1) : Nat) : Int))], s5) (fun r : im_Re => r.1 = none ∧ (jI r.2 ∧ Q r.2)) := by
          intro v408 hW
          refine pq_cVV (pc' := 158) rfl rfl rfl rfl rfl (c_copy1 L ys d s5 s5v (l1 + 1) l1n v408 _ hW) (fun s410 hr => ?_)
          obtain ⟨s410v, hW⟩ := hr
          refine pq_l (pc' := 159) rfl rfl rfl rfl rfl ?_
          refine pq_gm (pc' := 162) rfl rfl rfl rfl (jI_m0 s410v).1 ?_
          refine pq_s (pc' := 164) rfl rfl rfl rfl rfl ?_
          refine pq_l (pc' := 165) rfl rfl rfl rfl rfl ?_
          refine pq_gm (pc' := 168) rfl rfl rfl rfl (jI_m0 s410v).2.1 ?_
          refine pq_s (pc' := 170) rfl rfl rfl rfl rfl ?_
          refine pq_l (pc' := 171) rfl rfl rfl rfl rfl ?_
          refine pq_l (pc' := 172) rfl rfl rfl rfl rfl ?_
          have J613 : ∀ v612 : Nat, m4 ((v612 : Nat) : Int) → ((∀ s614, s614 = cpf s410 83 13 ((v612 : Nat) : Int) → (∀ v815 : Nat, v815 = (if l3 = 0 then (crf s614 83 15) else (crf s614 83 16)) → (∀ s817, s817 = cpf s614 83 14 ((v815 : Nat) : Int) → (∀ s818, s818 = cpf s817 83 15 (((crf s410 83 13) : Nat) : Int) → (∀ s819, s819 = cpf s818 83 16 (((crf s410 83 14) : Nat) : Int) → (Q s819))))))) → pq L ys d N84 rm_p_X3_take (186, [(0, (2, ((83 : Nat) : Int))), (3, (0, l3)), (7, (2, (((crf s410 83 13) : Nat) : Int))), (8, (2, (((crf s410 83 14) : Nat) : Int)))], [(2, ((v612 : Nat) : Int)), (2, ((83 : Nat) : Int))], s410) (fun r : im_Re => r.1 = none ∧ (jI r.2 ∧ Q r.2)) := by
            intro v612 v612r hW
            refine pq_pX (pc' := 189) rfl rfl rfl rfl (fun _ => Or.inr v612r) (fun e => absurd e (by decide)) s410v (fun s614 s614e s614v => ?_)
            have hW := hW s614 s614e
            refine pq_l (pc' := 190) rfl rfl rfl rfl rfl ?_
            refine pq_l (pc' := 191) rfl rfl rfl rfl rfl ?_
            have J816 : ∀ v815 : Nat, m4 ((v815 : Nat) : Int) → ((∀ s817, s817 = cpf s614 83 14 ((v815 : Nat) : Int) → (∀ s818, s818 = cpf s817 83 15 (((crf s410 83 13) : Nat) : Int) → (∀ s819, s819 = cpf s818 83 16 (((crf s410 83 14) : Nat) : Int) → (Q s819))))) → pq L ys d N84 rm_p_X3_take (205, [(0, (2, ((83 : Nat) : Int))), (7, (2, (((crf s410 83 13) : Nat) : Int))), (8, (2, (((crf s410 83 14) : Nat) : Int)))], [(2, ((v815 : Nat) : Int)), (2, ((83 : Nat) : Int))], s614) (fun r : im_Re => r.1 = none ∧ (jI r.2 ∧ Q r.2)) := by
              intro v815 v815r hW
              refine pq_pX (pc' := 208) rfl rfl rfl rfl (fun _ => Or.inr v815r) (fun e => absurd e (by decide)) s614v (fun s817 s817e s817v => ?_)
              have hW := hW s817 s817e
              refine pq_l (pc' := 209) rfl rfl rfl rfl rfl ?_
              refine pq_l (pc' := 211) rfl rfl rfl rfl rfl ?_
              refine pq_pX (pc' := 214) rfl rfl rfl rfl (fun _ => Or.inr (jI_m s410v).1) (fun e => absurd e (by decide)) s817v (fun s818 s818e s818v => ?_)
              have hW := hW s818 s818e
              refine pq_l (pc' := 215) rfl rfl rfl rfl rfl ?_
              refine pq_l (pc' := 217) rfl rfl rfl rfl rfl ?_
              refine pq_pX (pc' := 220) rfl rfl rfl rfl (fun _ => Or.inr (jI_m s410v).2.1) (fun e => absurd e (by decide)) s818v (fun s819 s819e s819v => ?_)
              have hW := hW s819 s819e
              exact pq_vret rfl ⟨rfl, s819v, hW⟩
            refine pq_z_eq (pt := 201) (pc' := 194) rfl rfl rfl (fun c615 => ?_) (fun c615 => ?_)
            · refine pq_l (pc' := 202) rfl rfl rfl rfl rfl ?_
              refine pq_gm (pc' := 205) rfl rfl rfl rfl (jI_m0 s614v).2.2.1 ?_
              refine pq_w [(0, (2, ((83 : Nat) : Int))), (7, (2, (((crf s410 83 13) : Nat) : Int))), (8, (2, (((crf s410 83 14) : Nat) : Int)))] ⟨rfl, rfl, rfl, trivial⟩ ?_
              exact J816 (crf s614 83 15) (jI_m s614v).2.2.1 (hW _ (by rw [if_pos c615]))
            · refine pq_l (pc' := 195) rfl rfl rfl rfl rfl ?_
              refine pq_gm (pc' := 198) rfl rfl rfl rfl (jI_m0 s614v).2.2.2 ?_
              refine pq_goto (pc' := 205) rfl rfl ?_
              refine pq_w [(0, (2, ((83 : Nat) : Int))), (7, (2, (((crf s410 83 13) : Nat) : Int))), (8, (2, (((crf s410 83 14) : Nat) : Int)))] ⟨rfl, rfl, rfl, trivial⟩ ?_
              exact J816 (crf s614 83 16) (jI_m s614v).2.2.2 (hW _ (by rw [if_neg (fun z => c615 z)]))
          refine pq_z_eq (pt := 182) (pc' := 175) rfl rfl rfl (fun c412 => ?_) (fun c412 => ?_)
          · refine pq_l (pc' := 183) rfl rfl rfl rfl rfl ?_
            refine pq_gm (pc' := 186) rfl rfl rfl rfl (jI_m0 s410v).2.2.2 ?_
            refine pq_w [(0, (2, ((83 : Nat) : Int))), (3, (0, l3)), (7, (2, (((crf s410 83 13) : Nat) : Int))), (8, (2, (((crf s410 83 14) : Nat) : Int)))] ⟨rfl, rfl, rfl, rfl, trivial⟩ ?_
            exact J613 (crf s410 83 16) (jI_m s410v).2.2.2 (hW _ (by rw [if_pos c412]))
          · refine pq_l (pc' := 176) rfl rfl rfl rfl rfl ?_
            refine pq_gm (pc' := 179) rfl rfl rfl rfl (jI_m0 s410v).2.2.1 ?_
            refine pq_goto (pc' := 186) rfl rfl ?_
            refine pq_w [(0, (2, ((83 : Nat) : Int))), (3, (0, l3)), (7, (2, (((crf s410 83 13) : Nat) : Int))), (8, (2, (((crf s410 83 14) : Nat) : Int)))] ⟨rfl, rfl, rfl, rfl, trivial⟩ ?_
            exact J613 (crf s410 83 15) (jI_m s410v).2.2.1 (hW _ (by rw [if_neg (fun z => c412 z)]))
        refine pq_z_eq (pt := 151) (pc' := 144) rfl rfl rfl (fun c208 => ?_) (fun c208 => ?_)
        · refine pq_l (pc' := 152) rfl rfl rfl rfl rfl ?_
          refine pq_gr (pc' := 155) (c := 557) (v := 557) rfl rfl rfl rfl rfl rfl s5v ?_
          refine pq_w [(0, (2, ((83 : Nat) : Int))), (3, (0, l3))] ⟨rfl, rfl, trivial⟩ ?_
          exact J409 557 (hW _ (by rw [if_pos c208]))
        · refine pq_l (pc' := 145) rfl rfl rfl rfl rfl ?_
          refine pq_gr (pc' := 148) (c := 555) (v := 555) rfl rfl rfl rfl rfl rfl s5v ?_
          refine pq_goto (pc' := 155) rfl rfl ?_
          refine pq_w [(0, (2, ((83 : Nat) : Int))), (3, (0, l3))] ⟨rfl, rfl, trivial⟩ ?_
          exact J409 555 (hW _ (by rw [if_neg (fun z => c208 z)]))
      refine pq_z_eq (pt := 132) (pc' := 114) rfl rfl rfl (fun c6 => ?_) (fun c6 => ?_)
      · refine pq_l (pc' := 133) rfl rfl rfl rfl rfl ?_
        refine pq_w [(0, (2, ((83 : Nat) : Int))), (1, (2, ((l1 : Nat) : Int))), (3, (0, l3))] ⟨rfl, rfl, rfl, trivial⟩ ?_
        exact J207 l3 l3r (hW _ (by rw [if_pos c6]))
      · refine pq_l (pc' := 115) rfl rfl rfl rfl rfl ?_
        refine pq_gm (pc' := 118) rfl rfl rfl rfl (jI_m0 s5v).2.2.1 ?_
        refine pq_gi (pc' := 121) rfl rfl rfl rfl rfl (fun r7 => ?_)
        refine pq_z_ne (pt := 128) (pc' := 124) rfl rfl rfl (fun c8 => ?_) (fun c8 => ?_)
        · refine pq_k (pc' := 129) (v := (0, 0)) rfl rfl rfl (fun _ => rfl) ?_
          refine pq_goto (pc' := 133) rfl rfl ?_
          refine pq_w [(0, (2, ((83 : Nat) : Int))), (1, (2, ((l1 : Nat) : Int))), (3, (0, l3))] ⟨rfl, rfl, rfl, trivial⟩ ?_
          exact J207 0 (⟨by decide, by decide⟩ : iR 0) (hW _ (by rw [if_neg (fun z => c6 z), if_pos c8]))
        · refine pq_k (pc' := 125) (v := (0, 1)) rfl rfl rfl (fun _ => rfl) ?_
          refine pq_goto (pc' := 133) rfl rfl ?_
          refine pq_w [(0, (2, ((83 : Nat) : Int))), (1, (2, ((l1 : Nat) : Int))), (3, (0, l3))] ⟨rfl, rfl, rfl, trivial⟩ ?_
          exact J207 1 (⟨by decide, by decide⟩ : iR 1) (hW _ (by rw [if_neg (fun z => c6 z), if_neg (by omega)]))
    · have hW := hW.2 c2
      exact pq_vret rfl ⟨rfl, s1v, hW⟩
  unfold C_take3 at hW
  refine pq_l (pc' := 1) rfl rfl rfl rfl rfl ?_
  refine pq_gm (pc' := 4) rfl rfl rfl rfl (jI_m0 hv).2.2.1 ?_
  refine pq_gi (pc' := 7) rfl rfl rfl rfl rfl (fun r820 => ?_)
  have J1022 : ∀ v1021 : Int, iR v1021 → ((∀ v1223 : Int, v1223 = (if ¬ (v1021 = 0) then 1 else (if (cgf s (crf s 83 16) 2) = (cgf s (crf s 83 13) 2) then (if ¬ (l3 = 0) then 0 else 1) else (if ¬ (l3 = 1) then 0 else 1))) → ((v1223 = 0 → (C_J9_max_7cf53 1 (divI l2 2) s (fun z1227 s1226 => (C_take3_84 l1 l2 l3 v1021 v1223 z1227 s1226 Q)))) ∧ (¬ (v1223 = 0) → (C_take3_84 l1 l2 l3 v1021 v1223 (w32 (l2 * 2)) s Q))))) → pq L ys d N rm_p_X3_take (25, [(0, (2, ((83 : Nat) : Int))), (1, (2, ((l1 : Nat) : Int))), (2, (0, l2)), (3, (0, l3))], [(0, v1021)], s) (fun r : im_Re => r.1 = none ∧ (jI r.2 ∧ Q r.2)) := by
    intro v1021 v1021r hW
    refine pq_s (pc' := 27) rfl rfl rfl rfl rfl ?_
    refine pq_l (pc' := 29) rfl rfl rfl rfl rfl ?_
    have J1224 : ∀ v1223 : Int, iR v1223 → (((v1223 = 0 → (C_J9_max_7cf53 1 (divI l2 2) s (fun z1227 s1226 => (C_take3_84 l1 l2 l3 v1021 v1223 z1227 s1226 Q)))) ∧ (¬ (v1223 = 0) → (C_take3_84 l1 l2 l3 v1021 v1223 (w32 (l2 * 2)) s Q)))) → pq L ys d N rm_p_X3_take (63, [(0, (2, ((83 : Nat) : Int))), (1, (2, ((l1 : Nat) : Int))), (2, (0, l2)), (3, (0, l3)), (4, (0, v1021))], [(0, v1223)], s) (fun r : im_Re => r.1 = none ∧ (jI r.2 ∧ Q r.2)) := by
      intro v1223 v1223r hW
      refine pq_s (pc' := 65) rfl rfl rfl rfl rfl ?_
      refine pq_l (pc' := 66) rfl rfl rfl rfl rfl ?_
      refine pq_l (pc' := 68) rfl rfl rfl rfl rfl ?_
      refine pq_z_eq (pt := 77) (pc' := 71) rfl rfl rfl (fun c1225 => ?_) (fun c1225 => ?_)
      · have hW := hW.1 c1225
        refine pq_k (pc' := 78) (v := (0, 1)) rfl rfl rfl (fun _ => rfl) ?_
        refine pq_l (pc' := 79) rfl rfl rfl rfl rfl ?_
        refine pq_k (pc' := 80) (v := (0, 2)) rfl rfl rfl (fun _ => rfl) ?_
        refine pq_idiv (pc' := 81) rfl rfl ?_
        refine pq_cSI (pc' := 84) rfl rfl rfl rfl rfl (c_J9_max_7cf53 L ys d s hv 1 (⟨by decide, by decide⟩ : iR 1) (divI l2 2) (divI_r _ _) _ hW) (fun z1227 s1226 hr => ?_)
        obtain ⟨s1226v, z1227r, hW⟩ := hr
        refine pq_w [(0, (2, ((83 : Nat) : Int))), (1, (2, ((l1 : Nat) : Int))), (2, (0, l2)), (3, (0, l3)), (4, (0, v1021)), (5, (0, v1223))] ⟨rfl, rfl, rfl, rfl, rfl, rfl, trivial⟩ ?_
        exact J84 N (by omega) l1 l1n l2 l2r l3 l3r v1021 v1021r v1223 v1223r z1227 z1227r s1226 s1226v hW
      · have hW := hW.2 c1225
        refine pq_l (pc' := 72) rfl rfl rfl rfl rfl ?_
        refine pq_k (pc' := 73) (v := (0, 2)) rfl rfl rfl (fun _ => rfl) ?_
        refine pq_mul (pc' := 74) rfl rfl ?_
        refine pq_goto (pc' := 84) rfl rfl ?_
        refine pq_w [(0, (2, ((83 : Nat) : Int))), (1, (2, ((l1 : Nat) : Int))), (2, (0, l2)), (3, (0, l3)), (4, (0, v1021)), (5, (0, v1223))] ⟨rfl, rfl, rfl, rfl, rfl, rfl, trivial⟩ ?_
        exact J84 N (by omega) l1 l1n l2 l2r l3 l3r v1021 v1021r v1223 v1223r (w32 (l2 * 2)) (w32_r _) s hv hW
    refine pq_z_ne (pt := 58) (pc' := 32) rfl rfl rfl (fun c1023 => ?_) (fun c1023 => ?_)
    · refine pq_k (pc' := 59) (v := (0, 1)) rfl rfl rfl (fun _ => rfl) ?_
      refine pq_goto (pc' := 63) rfl rfl ?_
      refine pq_w [(0, (2, ((83 : Nat) : Int))), (1, (2, ((l1 : Nat) : Int))), (2, (0, l2)), (3, (0, l3)), (4, (0, v1021))] ⟨rfl, rfl, rfl, rfl, rfl, trivial⟩ ?_
      exact J1224 1 (⟨by decide, by decide⟩ : iR 1) (hW _ (by rw [if_pos c1023]))
    · refine pq_l (pc' := 33) rfl rfl rfl rfl rfl ?_
      refine pq_l (pc' := 34) rfl rfl rfl rfl rfl ?_
      refine pq_gm (pc' := 37) rfl rfl rfl rfl (jI_m0 hv).2.2.2 ?_
      refine pq_gi (pc' := 40) rfl rfl rfl rfl rfl (fun r1024 => ?_)
      refine pq_l (pc' := 41) rfl rfl rfl rfl rfl ?_
      refine pq_gm (pc' := 44) rfl rfl rfl rfl (jI_m0 hv).1 ?_
      refine pq_gi (pc' := 47) rfl rfl rfl rfl rfl (fun r1025 => ?_)
      refine pq_c_eq (pt := 54) (pc' := 50) rfl rfl rfl (fun c1026 => ?_) (fun c1026 => ?_)
      · refine pq_k (pc' := 55) (v := (0, 0)) rfl rfl rfl (fun _ => rfl) ?_
        refine pq_c_ne (pt := 62) (pc' := 58) rfl rfl rfl (fun c1027 => ?_) (fun c1027 => ?_)
        · refine pq_k (pc' := 63) (v := (0, 0)) rfl rfl rfl (fun _ => rfl) ?_
          refine pq_w [(0, (2, ((83 : Nat) : Int))), (1, (2, ((l1 : Nat) : Int))), (2, (0, l2)), (3, (0, l3)), (4, (0, v1021))] ⟨rfl, rfl, rfl, rfl, rfl, trivial⟩ ?_
          exact J1224 0 (⟨by decide, by decide⟩ : iR 0) (hW _ (by rw [if_neg (by omega), if_pos c1026, if_pos c1027]))
        · refine pq_k (pc' := 59) (v := (0, 1)) rfl rfl rfl (fun _ => rfl) ?_
          refine pq_goto (pc' := 63) rfl rfl ?_
          refine pq_w [(0, (2, ((83 : Nat) : Int))), (1, (2, ((l1 : Nat) : Int))), (2, (0, l2)), (3, (0, l3)), (4, (0, v1021))] ⟨rfl, rfl, rfl, rfl, rfl, trivial⟩ ?_
          exact J1224 1 (⟨by decide, by decide⟩ : iR 1) (hW _ (by rw [if_neg (by omega), if_pos c1026, if_neg (by omega)]))
      · refine pq_k (pc' := 51) (v := (0, 1)) rfl rfl rfl (fun _ => rfl) ?_
        refine pq_goto (pc' := 55) rfl rfl ?_
        refine pq_c_ne (pt := 62) (pc' := 58) rfl rfl rfl (fun c1028 => ?_) (fun c1028 => ?_)
        · refine pq_k (pc' := 63) (v := (0, 0)) rfl rfl rfl (fun _ => rfl) ?_
          refine pq_w [(0, (2, ((83 : Nat) : Int))), (1, (2, ((l1 : Nat) : Int))), (2, (0, l2)), (3, (0, l3)), (4, (0, v1021))] ⟨rfl, rfl, rfl, rfl, rfl, trivial⟩ ?_
          exact J1224 0 (⟨by decide, by decide⟩ : iR 0) (hW _ (by rw [if_neg (by omega), if_neg (fun z => c1026 z), if_pos c1028]))
        · refine pq_k (pc' := 59) (v := (0, 1)) rfl rfl rfl (fun _ => rfl) ?_
          refine pq_goto (pc' := 63) rfl rfl ?_
          refine pq_w [(0, (2, ((83 : Nat) : Int))), (1, (2, ((l1 : Nat) : Int))), (2, (0, l2)), (3, (0, l3)), (4, (0, v1021))] ⟨rfl, rfl, rfl, rfl, rfl, trivial⟩ ?_
          exact J1224 1 (⟨by decide, by decide⟩ : iR 1) (hW _ (by rw [if_neg (by omega), if_neg (fun z => c1026 z), if_neg (by omega)]))
  refine pq_z_eq (pt := 20) (pc' := 10) rfl rfl rfl (fun c821 => ?_) (fun c821 => ?_)
  · refine pq_k (pc' := 21) (v := (0, 1)) rfl rfl rfl (fun _ => rfl) ?_
    refine pq_goto (pc' := 25) rfl rfl ?_
    refine pq_w [(0, (2, ((83 : Nat) : Int))), (1, (2, ((l1 : Nat) : Int))), (2, (0, l2)), (3, (0, l3))] ⟨rfl, rfl, rfl, rfl, trivial⟩ ?_
    exact J1022 1 (⟨by decide, by decide⟩ : iR 1) (hW _ (by rw [if_pos c821]))
  · refine pq_l (pc' := 11) rfl rfl rfl rfl rfl ?_
    refine pq_gm (pc' := 14) rfl rfl rfl rfl (jI_m0 hv).2.2.2 ?_
    refine pq_gi (pc' := 17) rfl rfl rfl rfl rfl (fun r822 => ?_)
    refine pq_z_ne (pt := 24) (pc' := 20) rfl rfl rfl (fun c823 => ?_) (fun c823 => ?_)
    · refine pq_k (pc' := 25) (v := (0, 0)) rfl rfl rfl (fun _ => rfl) ?_
      refine pq_w [(0, (2, ((83 : Nat) : Int))), (1, (2, ((l1 : Nat) : Int))), (2, (0, l2)), (3, (0, l3))] ⟨rfl, rfl, rfl, rfl, trivial⟩ ?_
      exact J1022 0 (⟨by decide, by decide⟩ : iR 0) (hW _ (by rw [if_neg (fun z => c821 z), if_pos c823]))
    · refine pq_k (pc' := 21) (v := (0, 1)) rfl rfl rfl (fun _ => rfl) ?_
      refine pq_goto (pc' := 25) rfl rfl ?_
      refine pq_w [(0, (2, ((83 : Nat) : Int))), (1, (2, ((l1 : Nat) : Int))), (2, (0, l2)), (3, (0, l3))] ⟨rfl, rfl, rfl, rfl, trivial⟩ ?_
      exact J1022 1 (⟨by decide, by decide⟩ : iR 1) (hW _ (by rw [if_neg (fun z => c821 z), if_neg (by omega)]))
def C_tighten3_279 (s : im_S) (Q : im_S → Prop) : Prop := (Q s)
def C_tighten3_86 (K86 : Int × im_S → Prop) (l1 : Nat) (l2 : Nat) (l4 : Int) (l5 : Int) (s : im_S) (Q : im_S → Prop) : Prop := ((10000 ≤ l5 → (C_tighten3_279 s Q)) ∧ (¬ (10000 ≤ l5) → ((l4 ≤ (cgf s l1 7) → (C_tighten3_279 s Q)) ∧ (¬ (l4 ≤ (cgf s l1 7)) → ((¬ ((cgf s l1 1) = 0) → (C_tighten3_279 s Q)) ∧ ((cgf s l1 1) = 0 → (C_J9_min_7cf53 (cgf s l1 8) (w32 (l4 - (cgf s l1 7))) s (fun z9 s8 => (C_J9_max_7cf53 1 z9 s8 (fun z11 s10 => (C_guessJump3 z11 s10 (fun s12 => (C_copy1 555 (l1 + 1) s12 (fun s14 => (C_shiftUp1 555 z11 s14 (fun s16 => (C_add1 555 559 1 s16 (fun s18 => (C_setValue3 (crf s18 83 15) l2 555 (w32 ((cgf s18 l1 7) + z11)) s18 (fun s21 => (∀ v225 : Int, v225 = (if ¬ ((cgf s21 (crf s21 83 15) 2) = (cgf s21 (crf s21 83 13) 2)) then 0 else 1) → (C_copy1 557 555 s21 (fun s227 => (∀ v429 : Int, v429 = (if v225 = 0 then (-1) else 1) → (C_add1 557 553 v429 s227 (fun s431 => (C_setValue3 (crf s431 83 16) l2 557 (w32 ((cgf s431 l1 7) + z11)) s431 (fun s434 => (C_take3 l1 z11 v225 s434 (fun s436 => (K86 ((w32 (l5 + 1)), s436))))))))))))))))))))))))))))))))
def C_tighten3_25 (s : im_S) (Q : im_S → Prop) : Prop := (Q s)
def C_tighten3 (l1 : Nat) (l2 : Nat) (l3 : Int) (s : im_S) (Q : im_S → Prop) : Prop := (C_J9_min_7cf53 l3 640 s (fun z440 s439 => ((¬ ((cgf s439 l1 1) = 0) → (C_tighten3_25 s439 Q)) ∧ ((cgf s439 l1 1) = 0 → (((cgf s439 l1 7) < z440 → (C_copy1 557 (l1 + 1) s439 (fun s445 => (C_add1 557 553 1 s445 (fun s447 => (C_setValue3 (crf s447 83 13) l2 (l1 + 1) (cgf s447 l1 7) s447 (fun s450 => (C_setValue3 (crf s450 83 14) l2 557 (cgf s450 l1 7) s450 (fun s453 => (ploop (fun (K : Int × im_S → Prop) (a : Int × im_S) => C_tighten3_86 K l1 l2 z440 a.1 a.2 Q) (0, s453))))))))))) ∧ (¬ ((cgf s439 l1 7) < z440) → (C_tighten3_25 s439 Q)))))))
set_option maxRecDepth 16384 in
theorem c_tighten3 (L : Nat) (ys : Nat → Int32) (d : Nat) (s : im_S) (hv : jI s) (l1 : Nat) (l1n : nb (l1 + 1)) (l2 : Nat) (l3 : Int) (l3r : iR l3) (Q : im_S → Prop) (hW : C_tighten3 l1 l2 l3 s Q) : pcV L ys d 147 [(2, ((83 : Nat) : Int)), (2, ((l1 : Nat) : Int)), (2, ((l2 : Nat) : Int)), (0, l3)] s (fun s9 => jI s9 ∧ Q s9) := by
  intro res hres
  refine pq_start (M := rm_p_X3_tighten) (Q := (fun r : im_Re => r.1 = none ∧ (jI r.2 ∧ Q r.2))) om_X3_tighten (fun d N => ?_) res hres
  refine pq_w [(0, (2, ((83 : Nat) : Int))), (1, (2, ((l1 : Nat) : Int))), (2, (2, ((l2 : Nat) : Int))), (3, (0, l3))] ⟨rfl, rfl, rfl, rfl, trivial⟩ ?_
  have J279 : ∀ N279 : Nat, N279 ≤ N → ∀ (s : im_S) (hv : jI s), C_tighten3_279 s Q → pq L ys d N279 rm_p_X3_tighten (279, [], [], s) (fun r : im_Re => r.1 = none ∧ (jI r.2 ∧ Q r.2)) := by
    intro N279 hN279 s hv hW
    unfold C_tighten3_279 at hW
    exact pq_vret rfl ⟨rfl, hv, hW⟩
  have J86 : ∀ (l1 : Nat) (l1n : nb (l1 + 1)) (l2 : Nat) (l4 : Int) (l4r : iR l4) (I86 : Int × im_S → Prop) (hB86 : ∀ a : Int × im_S, I86 a → C_tighten3_86 I86 l1 l2 l4 a.1 a.2 Q), ∀ N86 : Nat, N86 ≤ N → ∀ (l5 : Int) (l5r : iR l5) (s : im_S) (hv : jI s), I86 (l5, s) → pq L ys d N86 rm_p_X3_tighten (86, [(0, (2, ((83 : Nat) : Int))), (1, (2, ((l1 : Nat) : Int))), (2, (2, ((l2 : Nat) : Int))), (4, (0, l4)), (5, (0, l5))], [], s) (fun r : im_Re => r.1 = none ∧ (jI r.2 ∧ Q r.2)) := by
    intro l1 l1n l2 l4 l4r I86 hB86 N86
    induction N86 using Nat.strongRecOn with
    | _ N86 ih86 =>
      intro hN86 l5 l5r s hv hI
      have hW : C_tighten3_86 I86 l1 l2 l4 l5 s Q := hB86 (l5, s) hI
      unfold C_tighten3_86 at hW
      refine pq_l (pc' := 88) rfl rfl rfl rfl rfl ?_
      refine pq_k (pc' := 91) (v := (0, 10000)) rfl rfl rfl (fun _ => rfl) ?_
      refine pq_c_ge (pt := 279) (pc' := 94) rfl rfl rfl (fun c1 => ?_) (fun c1 => ?_)
      · have hW := hW.1 c1
        refine pq_w [] trivial ?_
        exact J279 N86 (by omega) s hv hW
      · have hW := hW.2 c1
        refine pq_l (pc' := 95) rfl rfl rfl rfl rfl ?_
        refine pq_gi (pc' := 98) rfl rfl rfl rfl rfl (fun r2 => ?_)
        refine pq_l (pc' := 100) rfl rfl rfl rfl rfl ?_
        refine pq_c_ge (pt := 279) (pc' := 103) rfl rfl rfl (fun c3 => ?_) (fun c3 => ?_)
        · have hW := hW.1 c3
          refine pq_w [] trivial ?_
          exact J279 N86 (by omega) s hv hW
        · have hW := hW.2 c3
          refine pq_l (pc' := 104) rfl rfl rfl rfl rfl ?_
          refine pq_gi (pc' := 107) rfl rfl rfl rfl rfl (fun r4 => ?_)
          refine pq_z_ne (pt := 279) (pc' := 110) rfl rfl rfl (fun c5 => ?_) (fun c5 => ?_)
          · have hW := hW.1 c5
            refine pq_w [] trivial ?_
            exact J279 N86 (by omega) s hv hW
          · have hW := hW.2 c5
            refine pq_k (pc' := 111) (v := (0, 1)) rfl rfl rfl (fun _ => rfl) ?_
            refine pq_l (pc' := 112) rfl rfl rfl rfl rfl ?_
            refine pq_gi (pc' := 115) rfl rfl rfl rfl rfl (fun r6 => ?_)
            refine pq_l (pc' := 117) rfl rfl rfl rfl rfl ?_
            refine pq_l (pc' := 118) rfl rfl rfl rfl rfl ?_
            refine pq_gi (pc' := 121) rfl rfl rfl rfl rfl (fun r7 => ?_)
            refine pq_sub (pc' := 122) rfl rfl ?_
            refine pq_cSI (pc' := 125) rfl rfl rfl rfl rfl (c_J9_min_7cf53 L ys d s hv (cgf s l1 8) r6 (w32 (l4 - (cgf s l1 7))) (w32_r _) _ hW) (fun z9 s8 hr => ?_)
            obtain ⟨s8v, z9r, hW⟩ := hr
            refine pq_cSI (pc' := 128) rfl rfl rfl rfl rfl (c_J9_max_7cf53 L ys d s8 s8v 1 (⟨by decide, by decide⟩ : iR 1) z9 z9r _ hW) (fun z11 s10 hr => ?_)
            obtain ⟨s10v, z11r, hW⟩ := hr
            refine pq_s (pc' := 130) rfl rfl rfl rfl rfl ?_
            refine pq_l (pc' := 131) rfl rfl rfl rfl rfl ?_
            refine pq_l (pc' := 133) rfl rfl rfl rfl rfl ?_
            refine pq_cVV (pc' := 136) rfl rfl rfl rfl rfl (c_guessJump3 L ys d s10 s10v z11 z11r _ hW) (fun s12 hr => ?_)
            obtain ⟨s12v, hW⟩ := hr
            refine pq_l (pc' := 137) rfl rfl rfl rfl rfl ?_
            refine pq_gr (pc' := 140) (c := 555) (v := 555) rfl rfl rfl rfl rfl rfl s12v ?_
            refine pq_l (pc' := 141) rfl rfl rfl rfl rfl ?_
            refine pq_gr (pc' := 144) (c := (l1 + 1)) (v := 0) rfl rfl rfl rfl rfl rfl s12v ?_
            refine pq_cVV (pc' := 147) rfl rfl rfl rfl rfl (c_copy1 L ys d s12 s12v 555 (⟨by decide, by decide⟩ : nb 555) (l1 + 1) _ hW) (fun s14 hr => ?_)
            obtain ⟨s14v, hW⟩ := hr
            refine pq_l (pc' := 148) rfl rfl rfl rfl rfl ?_
            refine pq_gr (pc' := 151) (c := 555) (v := 555) rfl rfl rfl rfl rfl rfl s14v ?_
            refine pq_l (pc' := 153) rfl rfl rfl rfl rfl ?_
            refine pq_cVV (pc' := 156) rfl rfl rfl rfl rfl (c_shiftUp1 L ys d s14 s14v 555 (⟨by decide, by decide⟩ : nb 555) z11 z11r _ hW) (fun s16 hr => ?_)
            obtain ⟨s16v, hW⟩ := hr
            refine pq_l (pc' := 157) rfl rfl rfl rfl rfl ?_
            refine pq_gr (pc' := 160) (c := 555) (v := 555) rfl rfl rfl rfl rfl rfl s16v ?_
            refine pq_l (pc' := 161) rfl rfl rfl rfl rfl ?_
            refine pq_gr (pc' := 164) (c := 559) (v := 559) rfl rfl rfl rfl rfl rfl s16v ?_
            refine pq_k (pc' := 165) (v := (0, 1)) rfl rfl rfl (fun _ => rfl) ?_
            refine pq_cVV (pc' := 168) rfl rfl rfl rfl rfl (c_add1 L ys d s16 s16v 555 (⟨by decide, by decide⟩ : nb 555) 559 1 (⟨by decide, by decide⟩ : iR 1) _ hW) (fun s18 hr => ?_)
            obtain ⟨s18v, hW⟩ := hr
            refine pq_l (pc' := 169) rfl rfl rfl rfl rfl ?_
            refine pq_l (pc' := 170) rfl rfl rfl rfl rfl ?_
            refine pq_gm (pc' := 173) rfl rfl rfl rfl (jI_m0 s18v).2.2.1 ?_
            refine pq_l (pc' := 174) rfl rfl rfl rfl rfl ?_
            refine pq_l (pc' := 175) rfl rfl rfl rfl rfl ?_
            refine pq_gr (pc' := 178) (c := 555) (v := 555) rfl rfl rfl rfl rfl rfl s18v ?_
            refine pq_l (pc' := 179) rfl rfl rfl rfl rfl ?_
            refine pq_gi (pc' := 182) rfl rfl rfl rfl rfl (fun r20 => ?_)
            refine pq_l (pc' := 184) rfl rfl rfl rfl rfl ?_
            refine pq_add (pc' := 185) rfl rfl ?_
            refine pq_cVV (pc' := 188) rfl rfl rfl rfl rfl (c_setValue3 L ys d s18 s18v (crf s18 83 15) (m4_nb (jI_m s18v).2.2.1) l2 555 (w32 ((cgf s18 l1 7) + z11)) (w32_r _) _ hW) (fun s21 hr => ?_)
            obtain ⟨s21v, hW⟩ := hr
            refine pq_l (pc' := 189) rfl rfl rfl rfl rfl ?_
            refine pq_gm (pc' := 192) rfl rfl rfl rfl (jI_m0 s21v).2.2.1 ?_
            refine pq_gi (pc' := 195) rfl rfl rfl rfl rfl (fun r23 => ?_)
            refine pq_l (pc' := 196) rfl rfl rfl rfl rfl ?_
            refine pq_gm (pc' := 199) rfl rfl rfl rfl (jI_m0 s21v).1 ?_
            refine pq_gi (pc' := 202) rfl rfl rfl rfl rfl (fun r24 => ?_)
            have J226 : ∀ v225 : Int, iR v225 → ((C_copy1 557 555 s21 (fun s227 => (∀ v429 : Int, v429 = (if v225 = 0 then (-1) else 1) → (C_add1 557 553 v429 s227 (fun s431 => (C_setValue3 (crf s431 83 16) l2 557 (w32 ((cgf s431 l1 7) + z11)) s431 (fun s434 => (C_take3 l1 z11 v225 s434 (fun s436 => (I86 ((w32 (l5 + 1)), s436)))))))))))) → pq L ys d N86 rm_p_X3_tighten (210, [(0, (2, ((83 : Nat) : Int))), (1, (2, ((l1 : Nat) : Int))), (2, (2, ((l2 : Nat) : Int))), (4, (0, l4)), (5, (0, l5)), (6, (0, z11))], [(0, v225)], s21) (fun r : im_Re => r.1 = none ∧ (jI r.2 ∧ Q r.2)) := by
              intro v225 v225r hW
              refine pq_s (pc' := 212) rfl rfl rfl rfl rfl ?_
              refine pq_l (pc' := 213) rfl rfl rfl rfl rfl ?_
              refine pq_gr (pc' := 216) (c := 557) (v := 557) rfl rfl rfl rfl rfl rfl s21v ?_
              refine pq_l (pc' := 217) rfl rfl rfl rfl rfl ?_
              refine pq_gr (pc' := 220) (c := 555) (v := 555) rfl rfl rfl rfl rfl rfl s21v ?_
              refine pq_cVV (pc' := 223) rfl rfl rfl rfl rfl (c_copy1 L ys d s21 s21v 557 (⟨by decide, by decide⟩ : nb 557) 555 _ hW) (fun s227 hr => ?_)
              obtain ⟨s227v, hW⟩ := hr
              refine pq_l (pc' := 224) rfl rfl rfl rfl rfl ?_
              refine pq_gr (pc' := 227) (c := 557) (v := 557) rfl rfl rfl rfl rfl rfl s227v ?_
              refine pq_l (pc' := 228) rfl rfl rfl rfl rfl ?_
              refine pq_gr (pc' := 231) (c := 553) (v := 553) rfl rfl rfl rfl rfl rfl s227v ?_
              refine pq_l (pc' := 233) rfl rfl rfl rfl rfl ?_
              have J430 : ∀ v429 : Int, iR v429 → ((C_add1 557 553 v429 s227 (fun s431 => (C_setValue3 (crf s431 83 16) l2 557 (w32 ((cgf s431 l1 7) + z11)) s431 (fun s434 => (C_take3 l1 z11 v225 s434 (fun s436 => (I86 ((w32 (l5 + 1)), s436))))))))) → pq L ys d N86 rm_p_X3_tighten (241, [(0, (2, ((83 : Nat) : Int))), (1, (2, ((l1 : Nat) : Int))), (2, (2, ((l2 : Nat) : Int))), (4, (0, l4)), (5, (0, l5)), (6, (0, z11)), (7, (0, v225))], [(0, v429), (2, ((553 : Nat) : Int)), (2, ((557 : Nat) : Int))], s227) (fun r : im_Re => r.1 = none ∧ (jI r.2 ∧ Q r.2)) := by
                intro v429 v429r hW
                refine pq_cVV (pc' := 244) rfl rfl rfl rfl rfl (c_add1 L ys d s227 s227v 557 (⟨by decide, by decide⟩ : nb 557) 553 v429 v429r _ hW) (fun s431 hr => ?_)
                obtain ⟨s431v, hW⟩ := hr
                refine pq_l (pc' := 245) rfl rfl rfl rfl rfl ?_
                refine pq_l (pc' := 246) rfl rfl rfl rfl rfl ?_
                refine pq_gm (pc' := 249) rfl rfl rfl rfl (jI_m0 s431v).2.2.2 ?_
                refine pq_l (pc' := 250) rfl rfl rfl rfl rfl ?_
                refine pq_l (pc' := 251) rfl rfl rfl rfl rfl ?_
                refine pq_gr (pc' := 254) (c := 557) (v := 557) rfl rfl rfl rfl rfl rfl s431v ?_
                refine pq_l (pc' := 255) rfl rfl rfl rfl rfl ?_
                refine pq_gi (pc' := 258) rfl rfl rfl rfl rfl (fun r433 => ?_)
                refine pq_l (pc' := 260) rfl rfl rfl rfl rfl ?_
                refine pq_add (pc' := 261) rfl rfl ?_
                refine pq_cVV (pc' := 264) rfl rfl rfl rfl rfl (c_setValue3 L ys d s431 s431v (crf s431 83 16) (m4_nb (jI_m s431v).2.2.2) l2 557 (w32 ((cgf s431 l1 7) + z11)) (w32_r _) _ hW) (fun s434 hr => ?_)
                obtain ⟨s434v, hW⟩ := hr
                refine pq_l (pc' := 265) rfl rfl rfl rfl rfl ?_
                refine pq_l (pc' := 266) rfl rfl rfl rfl rfl ?_
                refine pq_l (pc' := 268) rfl rfl rfl rfl rfl ?_
                refine pq_l (pc' := 270) rfl rfl rfl rfl rfl ?_
                refine pq_cVV (pc' := 273) rfl rfl rfl rfl rfl (c_take3 L ys d s434 s434v l1 l1n z11 z11r v225 v225r _ hW) (fun s436 hr => ?_)
                obtain ⟨s436v, hW⟩ := hr
                refine pq_inc (pc' := 276) rfl rfl rfl rfl ?_
                refine pq_gotoT (pc' := 86) rfl rfl (fun m438 m438l => ?_)
                refine pq_w [(0, (2, ((83 : Nat) : Int))), (1, (2, ((l1 : Nat) : Int))), (2, (2, ((l2 : Nat) : Int))), (4, (0, l4)), (5, (0, (w32 (l5 + 1))))] ⟨rfl, rfl, rfl, rfl, rfl, trivial⟩ ?_
                exact ih86 m438 (by omega) (by omega) (w32 (l5 + 1)) (w32_r _) s436 s436v hW
              refine pq_z_eq (pt := 240) (pc' := 236) rfl rfl rfl (fun c229 => ?_) (fun c229 => ?_)
              · refine pq_k (pc' := 241) (v := (0, (-1))) rfl rfl rfl (fun _ => rfl) ?_
                refine pq_w [(0, (2, ((83 : Nat) : Int))), (1, (2, ((l1 : Nat) : Int))), (2, (2, ((l2 : Nat) : Int))), (4, (0, l4)), (5, (0, l5)), (6, (0, z11)), (7, (0, v225))] ⟨rfl, rfl, rfl, rfl, rfl, rfl, rfl, trivial⟩ ?_
                exact J430 (-1) (⟨by decide, by decide⟩ : iR (-1)) (hW _ (by rw [if_pos c229]))
              · refine pq_k (pc' := 237) (v := (0, 1)) rfl rfl rfl (fun _ => rfl) ?_
                refine pq_goto (pc' := 241) rfl rfl ?_
                refine pq_w [(0, (2, ((83 : Nat) : Int))), (1, (2, ((l1 : Nat) : Int))), (2, (2, ((l2 : Nat) : Int))), (4, (0, l4)), (5, (0, l5)), (6, (0, z11)), (7, (0, v225))] ⟨rfl, rfl, rfl, rfl, rfl, rfl, rfl, trivial⟩ ?_
                exact J430 1 (⟨by decide, by decide⟩ : iR 1) (hW _ (by rw [if_neg (fun z => c229 z)]))
            refine pq_c_ne (pt := 209) (pc' := 205) rfl rfl rfl (fun c25 => ?_) (fun c25 => ?_)
            · refine pq_k (pc' := 210) (v := (0, 0)) rfl rfl rfl (fun _ => rfl) ?_
              refine pq_w [(0, (2, ((83 : Nat) : Int))), (1, (2, ((l1 : Nat) : Int))), (2, (2, ((l2 : Nat) : Int))), (4, (0, l4)), (5, (0, l5)), (6, (0, z11))] ⟨rfl, rfl, rfl, rfl, rfl, rfl, trivial⟩ ?_
              exact J226 0 (⟨by decide, by decide⟩ : iR 0) (hW _ (by rw [if_pos c25]))
            · refine pq_k (pc' := 206) (v := (0, 1)) rfl rfl rfl (fun _ => rfl) ?_
              refine pq_goto (pc' := 210) rfl rfl ?_
              refine pq_w [(0, (2, ((83 : Nat) : Int))), (1, (2, ((l1 : Nat) : Int))), (2, (2, ((l2 : Nat) : Int))), (4, (0, l4)), (5, (0, l5)), (6, (0, z11))] ⟨rfl, rfl, rfl, rfl, rfl, rfl, trivial⟩ ?_
              exact J226 1 (⟨by decide, by decide⟩ : iR 1) (hW _ (by rw [if_neg (by omega)]))
  have J25 : ∀ N25 : Nat, N25 ≤ N → ∀ (s : im_S) (hv : jI s), C_tighten3_25 s Q → pq L ys d N25 rm_p_X3_tighten (25, [], [], s) (fun r : im_Re => r.1 = none ∧ (jI r.2 ∧ Q r.2)) := by
    intro N25 hN25 s hv hW
    unfold C_tighten3_25 at hW
    exact pq_vret rfl ⟨rfl, hv, hW⟩
  unfold C_tighten3 at hW
  refine pq_l (pc' := 1) rfl rfl rfl rfl rfl ?_
  refine pq_k (pc' := 4) (v := (0, 640)) rfl rfl rfl (fun _ => rfl) ?_
  refine pq_cSI (pc' := 7) rfl rfl rfl rfl rfl (c_J9_min_7cf53 L ys d s hv l3 l3r 640 (⟨by decide, by decide⟩ : iR 640) _ hW) (fun z440 s439 hr => ?_)
  obtain ⟨s439v, z440r, hW⟩ := hr
  refine pq_s (pc' := 9) rfl rfl rfl rfl rfl ?_
  refine pq_l (pc' := 10) rfl rfl rfl rfl rfl ?_
  refine pq_gi (pc' := 13) rfl rfl rfl rfl rfl (fun r441 => ?_)
  refine pq_z_ne (pt := 25) (pc' := 16) rfl rfl rfl (fun c442 => ?_) (fun c442 => ?_)
  · have hW := hW.1 c442
    refine pq_w [] trivial ?_
    exact J25 N (by omega) s439 s439v hW
  · have hW := hW.2 c442
    refine pq_l (pc' := 17) rfl rfl rfl rfl rfl ?_
    refine pq_gi (pc' := 20) rfl rfl rfl rfl rfl (fun r443 => ?_)
    refine pq_l (pc' := 22) rfl rfl rfl rfl rfl ?_
    refine pq_c_lt (pt := 26) (pc' := 25) rfl rfl rfl (fun c444 => ?_) (fun c444 => ?_)
    · have hW := hW.1 c444
      refine pq_l (pc' := 27) rfl rfl rfl rfl rfl ?_
      refine pq_gr (pc' := 30) (c := 557) (v := 557) rfl rfl rfl rfl rfl rfl s439v ?_
      refine pq_l (pc' := 31) rfl rfl rfl rfl rfl ?_
      refine pq_gr (pc' := 34) (c := (l1 + 1)) (v := 0) rfl rfl rfl rfl rfl rfl s439v ?_
      refine pq_cVV (pc' := 37) rfl rfl rfl rfl rfl (c_copy1 L ys d s439 s439v 557 (⟨by decide, by decide⟩ : nb 557) (l1 + 1) _ hW) (fun s445 hr => ?_)
      obtain ⟨s445v, hW⟩ := hr
      refine pq_l (pc' := 38) rfl rfl rfl rfl rfl ?_
      refine pq_gr (pc' := 41) (c := 557) (v := 557) rfl rfl rfl rfl rfl rfl s445v ?_
      refine pq_l (pc' := 42) rfl rfl rfl rfl rfl ?_
      refine pq_gr (pc' := 45) (c := 553) (v := 553) rfl rfl rfl rfl rfl rfl s445v ?_
      refine pq_k (pc' := 46) (v := (0, 1)) rfl rfl rfl (fun _ => rfl) ?_
      refine pq_cVV (pc' := 49) rfl rfl rfl rfl rfl (c_add1 L ys d s445 s445v 557 (⟨by decide, by decide⟩ : nb 557) 553 1 (⟨by decide, by decide⟩ : iR 1) _ hW) (fun s447 hr => ?_)
      obtain ⟨s447v, hW⟩ := hr
      refine pq_l (pc' := 50) rfl rfl rfl rfl rfl ?_
      refine pq_l (pc' := 51) rfl rfl rfl rfl rfl ?_
      refine pq_gm (pc' := 54) rfl rfl rfl rfl (jI_m0 s447v).1 ?_
      refine pq_l (pc' := 55) rfl rfl rfl rfl rfl ?_
      refine pq_l (pc' := 56) rfl rfl rfl rfl rfl ?_
      refine pq_gr (pc' := 59) (c := (l1 + 1)) (v := 0) rfl rfl rfl rfl rfl rfl s447v ?_
      refine pq_l (pc' := 60) rfl rfl rfl rfl rfl ?_
      refine pq_gi (pc' := 63) rfl rfl rfl rfl rfl (fun r449 => ?_)
      refine pq_cVV (pc' := 66) rfl rfl rfl rfl rfl (c_setValue3 L ys d s447 s447v (crf s447 83 13) (m4_nb (jI_m s447v).1) l2 (l1 + 1) (cgf s447 l1 7) r449 _ hW) (fun s450 hr => ?_)
      obtain ⟨s450v, hW⟩ := hr
      refine pq_l (pc' := 67) rfl rfl rfl rfl rfl ?_
      refine pq_l (pc' := 68) rfl rfl rfl rfl rfl ?_
      refine pq_gm (pc' := 71) rfl rfl rfl rfl (jI_m0 s450v).2.1 ?_
      refine pq_l (pc' := 72) rfl rfl rfl rfl rfl ?_
      refine pq_l (pc' := 73) rfl rfl rfl rfl rfl ?_
      refine pq_gr (pc' := 76) (c := 557) (v := 557) rfl rfl rfl rfl rfl rfl s450v ?_
      refine pq_l (pc' := 77) rfl rfl rfl rfl rfl ?_
      refine pq_gi (pc' := 80) rfl rfl rfl rfl rfl (fun r452 => ?_)
      refine pq_cVV (pc' := 83) rfl rfl rfl rfl rfl (c_setValue3 L ys d s450 s450v (crf s450 83 14) (m4_nb (jI_m s450v).2.1) l2 557 (cgf s450 l1 7) r452 _ hW) (fun s453 hr => ?_)
      obtain ⟨s453v, hW⟩ := hr
      refine pq_k (pc' := 84) (v := (0, 0)) rfl rfl rfl (fun _ => rfl) ?_
      refine pq_s (pc' := 86) rfl rfl rfl rfl rfl ?_
      refine pq_w [(0, (2, ((83 : Nat) : Int))), (1, (2, ((l1 : Nat) : Int))), (2, (2, ((l2 : Nat) : Int))), (4, (0, z440)), (5, (0, 0))] ⟨rfl, rfl, rfl, rfl, rfl, trivial⟩ ?_
      obtain ⟨I9, hI9, hB9⟩ := hW
      exact J86 l1 l1n l2 z440 z440r I9 hB9 N (by omega) 0 (⟨by decide, by decide⟩ : iR 0) s453 s453v hI9
    · have hW := hW.2 c444
      refine pq_w [] trivial ?_
      exact J25 N (by omega) s439 s439v hW
def C_sideOf3 (l1 : Nat) (l2 : Int) (l4 : Int) (s : im_S) (Q : Int → im_S → Prop) : Prop := (C_set1 563 l2 s (fun s1 => (C_shiftUp1 563 (cgf s1 l1 7) s1 (fun s4 => (C_set1 567 l4 s4 (fun s6 => (C_setProduct1 565 (l1 + 1) 567 s6 (fun s8 => (C_add1 563 565 (-1) s8 (fun s10 => ((0 < (cgf s10 563 2) → (C_add1 563 567 (-1) s10 (fun s14 => (∀ v217 : Int, v217 = (if (cgf s14 563 2) < 0 then 0 else 1) → (Q v217 s14))))) ∧ (¬ (0 < (cgf s10 563 2)) → (Q (-1) s10)))))))))))))
set_option maxRecDepth 16384 in
theorem c_sideOf3 (L : Nat) (ys : Nat → Int32) (d : Nat) (s : im_S) (hv : jI s) (l1 : Nat) (l2 : Int) (l2r : lR l2) (l4 : Int) (l4r : lR l4) (Q : Int → im_S → Prop) (hW : C_sideOf3 l1 l2 l4 s Q) : pcI L ys 0 d 143 [(2, ((83 : Nat) : Int)), (2, ((l1 : Nat) : Int)), (1, l2), (1, l4)] s (fun z9 s9 => jI s9 ∧ iR z9 ∧ Q z9 s9) := by
  intro res hres
  refine pq_start (M := rm_p_X3_sideOf) (Q := (fun r : im_Re => ∃ z, r.1 = some (0, z) ∧ (jI r.2 ∧ iR z ∧ Q z r.2))) om_X3_sideOf (fun d N => ?_) res hres
  refine pq_w [(0, (2, ((83 : Nat) : Int))), (1, (2, ((l1 : Nat) : Int))), (2, (1, l2)), (4, (1, l4))] ⟨rfl, rfl, rfl, rfl, trivial⟩ ?_
  unfold C_sideOf3 at hW
  refine pq_l (pc' := 1) rfl rfl rfl rfl rfl ?_
  refine pq_gr (pc' := 4) (c := 563) (v := 563) rfl rfl rfl rfl rfl rfl hv ?_
  refine pq_l (pc' := 5) rfl rfl rfl rfl rfl ?_
  refine pq_cVV (pc' := 8) rfl rfl rfl rfl rfl (c_set1 L ys d s hv 563 (⟨by decide, by decide⟩ : nb 563) l2 l2r _ hW) (fun s1 hr => ?_)
  obtain ⟨s1v, hW⟩ := hr
  refine pq_l (pc' := 9) rfl rfl rfl rfl rfl ?_
  refine pq_gr (pc' := 12) (c := 563) (v := 563) rfl rfl rfl rfl rfl rfl s1v ?_
  refine pq_l (pc' := 13) rfl rfl rfl rfl rfl ?_
  refine pq_gi (pc' := 16) rfl rfl rfl rfl rfl (fun r3 => ?_)
  refine pq_cVV (pc' := 19) rfl rfl rfl rfl rfl (c_shiftUp1 L ys d s1 s1v 563 (⟨by decide, by decide⟩ : nb 563) (cgf s1 l1 7) r3 _ hW) (fun s4 hr => ?_)
  obtain ⟨s4v, hW⟩ := hr
  refine pq_l (pc' := 20) rfl rfl rfl rfl rfl ?_
  refine pq_gr (pc' := 23) (c := 567) (v := 567) rfl rfl rfl rfl rfl rfl s4v ?_
  refine pq_l (pc' := 25) rfl rfl rfl rfl rfl ?_
  refine pq_cVV (pc' := 28) rfl rfl rfl rfl rfl (c_set1 L ys d s4 s4v 567 (⟨by decide, by decide⟩ : nb 567) l4 l4r _ hW) (fun s6 hr => ?_)
  obtain ⟨s6v, hW⟩ := hr
  refine pq_l (pc' := 29) rfl rfl rfl rfl rfl ?_
  refine pq_gr (pc' := 32) (c := 565) (v := 565) rfl rfl rfl rfl rfl rfl s6v ?_
  refine pq_l (pc' := 33) rfl rfl rfl rfl rfl ?_
  refine pq_gr (pc' := 36) (c := (l1 + 1)) (v := 0) rfl rfl rfl rfl rfl rfl s6v ?_
  refine pq_l (pc' := 37) rfl rfl rfl rfl rfl ?_
  refine pq_gr (pc' := 40) (c := 567) (v := 567) rfl rfl rfl rfl rfl rfl s6v ?_
  refine pq_cVV (pc' := 43) rfl rfl rfl rfl rfl (c_setProduct1 L ys d s6 s6v 565 (⟨by decide, by decide⟩ : nb 565) (l1 + 1) 567 _ hW) (fun s8 hr => ?_)
  obtain ⟨s8v, hW⟩ := hr
  refine pq_l (pc' := 44) rfl rfl rfl rfl rfl ?_
  refine pq_gr (pc' := 47) (c := 563) (v := 563) rfl rfl rfl rfl rfl rfl s8v ?_
  refine pq_l (pc' := 48) rfl rfl rfl rfl rfl ?_
  refine pq_gr (pc' := 51) (c := 565) (v := 565) rfl rfl rfl rfl rfl rfl s8v ?_
  refine pq_k (pc' := 52) (v := (0, (-1))) rfl rfl rfl (fun _ => rfl) ?_
  refine pq_cVV (pc' := 55) rfl rfl rfl rfl rfl (c_add1 L ys d s8 s8v 563 (⟨by decide, by decide⟩ : nb 563) 565 (-1) (⟨by decide, by decide⟩ : iR (-1)) _ hW) (fun s10 hr => ?_)
  obtain ⟨s10v, hW⟩ := hr
  refine pq_l (pc' := 56) rfl rfl rfl rfl rfl ?_
  refine pq_gr (pc' := 59) (c := 563) (v := 563) rfl rfl rfl rfl rfl rfl s10v ?_
  refine pq_gi (pc' := 62) rfl rfl rfl rfl rfl (fun r12 => ?_)
  refine pq_z_gt (pt := 67) (pc' := 65) rfl rfl rfl (fun c13 => ?_) (fun c13 => ?_)
  · have hW := hW.1 c13
    refine pq_l (pc' := 68) rfl rfl rfl rfl rfl ?_
    refine pq_gr (pc' := 71) (c := 563) (v := 563) rfl rfl rfl rfl rfl rfl s10v ?_
    refine pq_l (pc' := 72) rfl rfl rfl rfl rfl ?_
    refine pq_gr (pc' := 75) (c := 567) (v := 567) rfl rfl rfl rfl rfl rfl s10v ?_
    refine pq_k (pc' := 76) (v := (0, (-1))) rfl rfl rfl (fun _ => rfl) ?_
    refine pq_cVV (pc' := 79) rfl rfl rfl rfl rfl (c_add1 L ys d s10 s10v 563 (⟨by decide, by decide⟩ : nb 563) 567 (-1) (⟨by decide, by decide⟩ : iR (-1)) _ hW) (fun s14 hr => ?_)
    obtain ⟨s14v, hW⟩ := hr
    refine pq_l (pc' := 80) rfl rfl rfl rfl rfl ?_
    refine pq_gr (pc' := 83) (c := 563) (v := 563) rfl rfl rfl rfl rfl rfl s14v ?_
    refine pq_gi (pc' := 86) rfl rfl rfl rfl rfl (fun r16 => ?_)
    have J218 : ∀ v217 : Int, iR v217 → ((Q v217 s14)) → pq L ys d N rm_p_X3_sideOf (94, [], [(0, v217)], s14) (fun r : im_Re => ∃ z, r.1 = some (0, z) ∧ (jI r.2 ∧ iR z ∧ Q z r.2)) := by
      intro v217 v217r hW
      exact pq_iret rfl ⟨_, rfl, s14v, v217r, hW⟩
    refine pq_z_lt (pt := 93) (pc' := 89) rfl rfl rfl (fun c17 => ?_) (fun c17 => ?_)
    · refine pq_k (pc' := 94) (v := (0, 0)) rfl rfl rfl (fun _ => rfl) ?_
      refine pq_w [] trivial ?_
      exact J218 0 (⟨by decide, by decide⟩ : iR 0) (hW _ (by rw [if_pos c17]))
    · refine pq_k (pc' := 90) (v := (0, 1)) rfl rfl rfl (fun _ => rfl) ?_
      refine pq_goto (pc' := 94) rfl rfl ?_
      refine pq_w [] trivial ?_
      exact J218 1 (⟨by decide, by decide⟩ : iR 1) (hW _ (by rw [if_neg (fun z => c17 z)]))
  · have hW := hW.2 c13
    refine pq_k (pc' := 66) (v := (0, (-1))) rfl rfl rfl (fun _ => rfl) ?_
    exact pq_iret rfl ⟨_, rfl, s10v, (⟨by decide, by decide⟩ : iR (-1)), hW⟩
def C_readBinary3_69 (l1 : Nat) (l2 : Int) (s : im_S) (Q : im_S → Prop) : Prop := (C_toLong1 555 s (fun z2 s1 => (C_J9_min_7cf53 l2 32 s1 (fun z4 s3 => (C_setFraction8 l1 z2 (shlJ 1 z4) s3 (fun s5 => (Q s5)))))))
def C_readBinary3_41 (K41 : Int × im_S → Prop) (l1 : Nat) (l2 : Int) (s : im_S) (Q : im_S → Prop) : Prop := ((l2 ≤ 0 → (C_readBinary3_69 l1 l2 s Q)) ∧ (¬ (l2 ≤ 0) → (C_isEven1 555 s (fun z9 s8 => ((z9 = 0 → (C_readBinary3_69 l1 l2 s8 Q)) ∧ (¬ (z9 = 0) → (C_shiftDown1 555 1 s8 (fun s11 => (K41 ((w32 (l2 + (-1))), s11))))))))))
def C_readBinary3_30 (l1 : Nat) (l2 : Int) (s : im_S) (Q : im_S → Prop) : Prop := (C_shiftUp1 555 (w32 (-l2)) s (fun s14 => (ploop (fun (K : Int × im_S → Prop) (a : Int × im_S) => C_readBinary3_41 K l1 a.1 a.2 Q) (0, s14))))
def C_readBinary3 (l1 : Nat) (s : im_S) (Q : im_S → Prop) : Prop := (C_copy1 555 (l1 + 1) s (fun s16 => (((cgf s16 l1 7) < 0 → (C_readBinary3_30 l1 (cgf s16 l1 7) s16 Q)) ∧ (¬ ((cgf s16 l1 7) < 0) → ((¬ ((cgf s16 555 2) = 0) → (ploop (fun (K : Int × im_S → Prop) (a : Int × im_S) => C_readBinary3_41 K l1 a.1 a.2 Q) ((cgf s16 l1 7), s16))) ∧ ((cgf s16 555 2) = 0 → (C_readBinary3_30 l1 (cgf s16 l1 7) s16 Q)))))))
set_option maxRecDepth 16384 in
theorem c_readBinary3 (L : Nat) (ys : Nat → Int32) (d : Nat) (s : im_S) (hv : jI s) (l1 : Nat) (Q : im_S → Prop) (hW : C_readBinary3 l1 s Q) : pcV L ys d 137 [(2, ((83 : Nat) : Int)), (2, ((l1 : Nat) : Int))] s (fun s9 => jI s9 ∧ Q s9) := by
  intro res hres
  refine pq_start (M := rm_p_X3_readBinary) (Q := (fun r : im_Re => r.1 = none ∧ (jI r.2 ∧ Q r.2))) om_X3_readBinary (fun d N => ?_) res hres
  refine pq_w [(0, (2, ((83 : Nat) : Int))), (1, (2, ((l1 : Nat) : Int)))] ⟨rfl, rfl, trivial⟩ ?_
  have J69 : ∀ N69 : Nat, N69 ≤ N → ∀ (l1 : Nat) (l2 : Int) (l2r : iR l2) (s : im_S) (hv : jI s), C_readBinary3_69 l1 l2 s Q → pq L ys d N69 rm_p_X3_readBinary (69, [(0, (2, ((83 : Nat) : Int))), (1, (2, ((l1 : Nat) : Int))), (2, (0, l2))], [], s) (fun r : im_Re => r.1 = none ∧ (jI r.2 ∧ Q r.2)) := by
    intro N69 hN69 l1 l2 l2r s hv hW
    unfold C_readBinary3_69 at hW
    refine pq_l (pc' := 70) rfl rfl rfl rfl rfl ?_
    refine pq_l (pc' := 71) rfl rfl rfl rfl rfl ?_
    refine pq_gr (pc' := 74) (c := 555) (v := 555) rfl rfl rfl rfl rfl rfl hv ?_
    refine pq_cVI (pc' := 77) rfl rfl rfl rfl rfl (c_toLong1 L ys d s hv 555 _ hW) (fun z2 s1 hr => ?_)
    obtain ⟨s1v, z2r, hW⟩ := hr
    refine pq_k (pc' := 78) (v := (1, 1)) rfl rfl rfl (fun _ => rfl) ?_
    refine pq_l (pc' := 79) rfl rfl rfl rfl rfl ?_
    refine pq_k (pc' := 81) (v := (0, 32)) rfl rfl rfl (fun _ => rfl) ?_
    refine pq_cSI (pc' := 84) rfl rfl rfl rfl rfl (c_J9_min_7cf53 L ys d s1 s1v l2 l2r 32 (⟨by decide, by decide⟩ : iR 32) _ hW) (fun z4 s3 hr => ?_)
    obtain ⟨s3v, z4r, hW⟩ := hr
    refine pq_lshl (pc' := 85) rfl rfl ?_
    refine pq_cVV (pc' := 88) rfl rfl rfl rfl rfl (c_setFraction8 L ys d s3 s3v l1 z2 z2r (shlJ 1 z4) (shlJ_r _ _) _ hW) (fun s5 hr => ?_)
    obtain ⟨s5v, hW⟩ := hr
    exact pq_vret rfl ⟨rfl, s5v, hW⟩
  have J41 : ∀ (l1 : Nat) (I41 : Int × im_S → Prop) (hB41 : ∀ a : Int × im_S, I41 a → C_readBinary3_41 I41 l1 a.1 a.2 Q), ∀ N41 : Nat, N41 ≤ N → ∀ (l2 : Int) (l2r : iR l2) (s : im_S) (hv : jI s), I41 (l2, s) → pq L ys d N41 rm_p_X3_readBinary (41, [(0, (2, ((83 : Nat) : Int))), (1, (2, ((l1 : Nat) : Int))), (2, (0, l2))], [], s) (fun r : im_Re => r.1 = none ∧ (jI r.2 ∧ Q r.2)) := by
    intro l1 I41 hB41 N41
    induction N41 using Nat.strongRecOn with
    | _ N41 ih41 =>
      intro hN41 l2 l2r s hv hI
      have hW : C_readBinary3_41 I41 l1 l2 s Q := hB41 (l2, s) hI
      unfold C_readBinary3_41 at hW
      refine pq_l (pc' := 42) rfl rfl rfl rfl rfl ?_
      refine pq_z_le (pt := 69) (pc' := 45) rfl rfl rfl (fun c7 => ?_) (fun c7 => ?_)
      · have hW := hW.1 c7
        refine pq_w [(0, (2, ((83 : Nat) : Int))), (1, (2, ((l1 : Nat) : Int))), (2, (0, l2))] ⟨rfl, rfl, rfl, trivial⟩ ?_
        exact J69 N41 (by omega) l1 l2 l2r s hv hW
      · have hW := hW.2 c7
        refine pq_l (pc' := 46) rfl rfl rfl rfl rfl ?_
        refine pq_gr (pc' := 49) (c := 555) (v := 555) rfl rfl rfl rfl rfl rfl hv ?_
        refine pq_cVI (pc' := 52) rfl rfl rfl rfl rfl (c_isEven1 L ys d s hv 555 _ hW) (fun z9 s8 hr => ?_)
        obtain ⟨s8v, z9r, hW⟩ := hr
        refine pq_z_eq (pt := 69) (pc' := 55) rfl rfl rfl (fun c10 => ?_) (fun c10 => ?_)
        · have hW := hW.1 c10
          refine pq_w [(0, (2, ((83 : Nat) : Int))), (1, (2, ((l1 : Nat) : Int))), (2, (0, l2))] ⟨rfl, rfl, rfl, trivial⟩ ?_
          exact J69 N41 (by omega) l1 l2 l2r s8 s8v hW
        · have hW := hW.2 c10
          refine pq_l (pc' := 56) rfl rfl rfl rfl rfl ?_
          refine pq_gr (pc' := 59) (c := 555) (v := 555) rfl rfl rfl rfl rfl rfl s8v ?_
          refine pq_k (pc' := 60) (v := (0, 1)) rfl rfl rfl (fun _ => rfl) ?_
          refine pq_cVV (pc' := 63) rfl rfl rfl rfl rfl (c_shiftDown1 L ys d s8 s8v 555 (⟨by decide, by decide⟩ : nb 555) 1 (⟨by decide, by decide⟩ : iR 1) _ hW) (fun s11 hr => ?_)
          obtain ⟨s11v, hW⟩ := hr
          refine pq_inc (pc' := 66) rfl rfl rfl rfl ?_
          refine pq_gotoT (pc' := 41) rfl rfl (fun m13 m13l => ?_)
          refine pq_w [(0, (2, ((83 : Nat) : Int))), (1, (2, ((l1 : Nat) : Int))), (2, (0, (w32 (l2 + (-1)))))] ⟨rfl, rfl, rfl, trivial⟩ ?_
          exact ih41 m13 (by omega) (by omega) (w32 (l2 + (-1))) (w32_r _) s11 s11v hW
  have J30 : ∀ N30 : Nat, N30 ≤ N → ∀ (l1 : Nat) (l2 : Int) (l2r : iR l2) (s : im_S) (hv : jI s), C_readBinary3_30 l1 l2 s Q → pq L ys d N30 rm_p_X3_readBinary (30, [(0, (2, ((83 : Nat) : Int))), (1, (2, ((l1 : Nat) : Int))), (2, (0, l2))], [], s) (fun r : im_Re => r.1 = none ∧ (jI r.2 ∧ Q r.2)) := by
    intro N30 hN30 l1 l2 l2r s hv hW
    unfold C_readBinary3_30 at hW
    refine pq_l (pc' := 31) rfl rfl rfl rfl rfl ?_
    refine pq_gr (pc' := 34) (c := 555) (v := 555) rfl rfl rfl rfl rfl rfl hv ?_
    refine pq_l (pc' := 35) rfl rfl rfl rfl rfl ?_
    refine pq_ineg (pc' := 36) rfl rfl ?_
    refine pq_cVV (pc' := 39) rfl rfl rfl rfl rfl (c_shiftUp1 L ys d s hv 555 (⟨by decide, by decide⟩ : nb 555) (w32 (-l2)) (w32_r _) _ hW) (fun s14 hr => ?_)
    obtain ⟨s14v, hW⟩ := hr
    refine pq_k (pc' := 40) (v := (0, 0)) rfl rfl rfl (fun _ => rfl) ?_
    refine pq_s (pc' := 41) rfl rfl rfl rfl rfl ?_
    refine pq_w [(0, (2, ((83 : Nat) : Int))), (1, (2, ((l1 : Nat) : Int))), (2, (0, 0))] ⟨rfl, rfl, rfl, trivial⟩ ?_
    obtain ⟨I9, hI9, hB9⟩ := hW
    exact J41 l1 I9 hB9 N30 (by omega) 0 (⟨by decide, by decide⟩ : iR 0) s14 s14v hI9
  unfold C_readBinary3 at hW
  refine pq_l (pc' := 1) rfl rfl rfl rfl rfl ?_
  refine pq_gr (pc' := 4) (c := 555) (v := 555) rfl rfl rfl rfl rfl rfl hv ?_
  refine pq_l (pc' := 5) rfl rfl rfl rfl rfl ?_
  refine pq_gr (pc' := 8) (c := (l1 + 1)) (v := 0) rfl rfl rfl rfl rfl rfl hv ?_
  refine pq_cVV (pc' := 11) rfl rfl rfl rfl rfl (c_copy1 L ys d s hv 555 (⟨by decide, by decide⟩ : nb 555) (l1 + 1) _ hW) (fun s16 hr => ?_)
  obtain ⟨s16v, hW⟩ := hr
  refine pq_l (pc' := 12) rfl rfl rfl rfl rfl ?_
  refine pq_gi (pc' := 15) rfl rfl rfl rfl rfl (fun r18 => ?_)
  refine pq_s (pc' := 16) rfl rfl rfl rfl rfl ?_
  refine pq_l (pc' := 17) rfl rfl rfl rfl rfl ?_
  refine pq_z_lt (pt := 30) (pc' := 20) rfl rfl rfl (fun c19 => ?_) (fun c19 => ?_)
  · have hW := hW.1 c19
    refine pq_w [(0, (2, ((83 : Nat) : Int))), (1, (2, ((l1 : Nat) : Int))), (2, (0, (cgf s16 l1 7)))] ⟨rfl, rfl, rfl, trivial⟩ ?_
    exact J30 N (by omega) l1 (cgf s16 l1 7) r18 s16 s16v hW
  · have hW := hW.2 c19
    refine pq_l (pc' := 21) rfl rfl rfl rfl rfl ?_
    refine pq_gr (pc' := 24) (c := 555) (v := 555) rfl rfl rfl rfl rfl rfl s16v ?_
    refine pq_gi (pc' := 27) rfl rfl rfl rfl rfl (fun r20 => ?_)
    refine pq_z_ne (pt := 41) (pc' := 30) rfl rfl rfl (fun c21 => ?_) (fun c21 => ?_)
    · have hW := hW.1 c21
      refine pq_w [(0, (2, ((83 : Nat) : Int))), (1, (2, ((l1 : Nat) : Int))), (2, (0, (cgf s16 l1 7)))] ⟨rfl, rfl, rfl, trivial⟩ ?_
      obtain ⟨I9, hI9, hB9⟩ := hW
      exact J41 l1 I9 hB9 N (by omega) (cgf s16 l1 7) r18 s16 s16v hI9
    · have hW := hW.2 c21
      refine pq_w [(0, (2, ((83 : Nat) : Int))), (1, (2, ((l1 : Nat) : Int))), (2, (0, (cgf s16 l1 7)))] ⟨rfl, rfl, rfl, trivial⟩ ?_
      exact J30 N (by omega) l1 (cgf s16 l1 7) r18 s16 s16v hW
def C_readParts3_80 (l1 : Nat) (k0 : Int) (s : im_S) (Q : im_S → Prop) : Prop := (∀ s1, s1 = cpf s l1 4 (shrJ k0 32) → (∀ s2, s2 = cpf s1 l1 5 (andJ k0 4294967295) → (Q s2)))
def C_readParts3_43 (l1 : Nat) (l2 : Int) (s : im_S) (Q : im_S → Prop) : Prop := (C_shiftDown1 555 (w32 ((cgf s l1 7) - 32)) s (fun s4 => ((l2 = 0 → (C_toLong1 555 s4 (fun z8 s7 => (C_readParts3_80 l1 z8 s7 Q)))) ∧ (¬ (l2 = 0) → (C_toLong1 555 s4 (fun z10 s9 => (C_readParts3_80 l1 (w64 (z10 - 1)) s9 Q)))))))
def C_readParts3 (l1 : Nat) (s : im_S) (Q : im_S → Prop) : Prop := (C_copy1 555 (l1 + 1) s (fun s11 => (∀ v214 : Int, v214 = (if 0 ≤ (cgf s11 555 2) then 0 else 1) → ((v214 = 0 → (C_readParts3_43 l1 v214 s11 Q)) ∧ (¬ (v214 = 0) → (C_add1 555 553 1 s11 (fun s217 => (C_readParts3_43 l1 v214 s217 Q))))))))
set_option maxRecDepth 16384 in
theorem c_readParts3 (L : Nat) (ys : Nat → Int32) (d : Nat) (s : im_S) (hv : jI s) (l1 : Nat) (Q : im_S → Prop) (hW : C_readParts3 l1 s Q) : pcV L ys d 138 [(2, ((83 : Nat) : Int)), (2, ((l1 : Nat) : Int))] s (fun s9 => jI s9 ∧ Q s9) := by
  intro res hres
  refine pq_start (M := rm_p_X3_readParts) (Q := (fun r : im_Re => r.1 = none ∧ (jI r.2 ∧ Q r.2))) om_X3_readParts (fun d N => ?_) res hres
  refine pq_w [(0, (2, ((83 : Nat) : Int))), (1, (2, ((l1 : Nat) : Int)))] ⟨rfl, rfl, trivial⟩ ?_
  have J80 : ∀ N80 : Nat, N80 ≤ N → ∀ (l1 : Nat) (k0 : Int) (k0r : lR k0) (s : im_S) (hv : jI s), C_readParts3_80 l1 k0 s Q → pq L ys d N80 rm_p_X3_readParts (80, [(1, (2, ((l1 : Nat) : Int)))], [(1, k0)], s) (fun r : im_Re => r.1 = none ∧ (jI r.2 ∧ Q r.2)) := by
    intro N80 hN80 l1 k0 k0r s hv hW
    unfold C_readParts3_80 at hW
    refine pq_s2 (pc' := 81) rfl rfl rfl rfl rfl ?_
    refine pq_l (pc' := 82) rfl rfl rfl rfl rfl ?_
    refine pq_l (pc' := 83) rfl rfl rfl rfl rfl ?_
    refine pq_k (pc' := 85) (v := (0, 32)) rfl rfl rfl (fun _ => rfl) ?_
    refine pq_lshr (pc' := 86) rfl rfl ?_
    refine pq_pX (pc' := 89) rfl rfl rfl rfl (fun e => absurd e (by decide)) (fun e => absurd e (by decide)) hv (fun s1 s1e s1v => ?_)
    have hW := hW s1 s1e
    refine pq_l (pc' := 90) rfl rfl rfl rfl rfl ?_
    refine pq_l (pc' := 91) rfl rfl rfl rfl rfl ?_
    refine pq_k (pc' := 94) (v := (1, 4294967295)) rfl rfl rfl (fun _ => rfl) ?_
    refine pq_land (pc' := 95) rfl rfl ?_
    refine pq_pX (pc' := 98) rfl rfl rfl rfl (fun e => absurd e (by decide)) (fun e => absurd e (by decide)) s1v (fun s2 s2e s2v => ?_)
    have hW := hW s2 s2e
    exact pq_vret rfl ⟨rfl, s2v, hW⟩
  have J43 : ∀ N43 : Nat, N43 ≤ N → ∀ (l1 : Nat) (l2 : Int) (l2r : iR l2) (s : im_S) (hv : jI s), C_readParts3_43 l1 l2 s Q → pq L ys d N43 rm_p_X3_readParts (43, [(0, (2, ((83 : Nat) : Int))), (1, (2, ((l1 : Nat) : Int))), (2, (0, l2))], [], s) (fun r : im_Re => r.1 = none ∧ (jI r.2 ∧ Q r.2)) := by
    intro N43 hN43 l1 l2 l2r s hv hW
    unfold C_readParts3_43 at hW
    refine pq_l (pc' := 44) rfl rfl rfl rfl rfl ?_
    refine pq_gr (pc' := 47) (c := 555) (v := 555) rfl rfl rfl rfl rfl rfl hv ?_
    refine pq_l (pc' := 48) rfl rfl rfl rfl rfl ?_
    refine pq_gi (pc' := 51) rfl rfl rfl rfl rfl (fun r3 => ?_)
    refine pq_k (pc' := 53) (v := (0, 32)) rfl rfl rfl (fun _ => rfl) ?_
    refine pq_sub (pc' := 54) rfl rfl ?_
    refine pq_cVV (pc' := 57) rfl rfl rfl rfl rfl (c_shiftDown1 L ys d s hv 555 (⟨by decide, by decide⟩ : nb 555) (w32 ((cgf s l1 7) - 32)) (w32_r _) _ hW) (fun s4 hr => ?_)
    obtain ⟨s4v, hW⟩ := hr
    refine pq_l (pc' := 58) rfl rfl rfl rfl rfl ?_
    refine pq_z_eq (pt := 73) (pc' := 61) rfl rfl rfl (fun c6 => ?_) (fun c6 => ?_)
    · have hW := hW.1 c6
      refine pq_l (pc' := 74) rfl rfl rfl rfl rfl ?_
      refine pq_gr (pc' := 77) (c := 555) (v := 555) rfl rfl rfl rfl rfl rfl s4v ?_
      refine pq_cVI (pc' := 80) rfl rfl rfl rfl rfl (c_toLong1 L ys d s4 s4v 555 _ hW) (fun z8 s7 hr => ?_)
      obtain ⟨s7v, z8r, hW⟩ := hr
      refine pq_w [(1, (2, ((l1 : Nat) : Int)))] ⟨rfl, trivial⟩ ?_
      exact J80 N43 (by omega) l1 z8 z8r s7 s7v hW
    · have hW := hW.2 c6
      refine pq_l (pc' := 62) rfl rfl rfl rfl rfl ?_
      refine pq_gr (pc' := 65) (c := 555) (v := 555) rfl rfl rfl rfl rfl rfl s4v ?_
      refine pq_cVI (pc' := 68) rfl rfl rfl rfl rfl (c_toLong1 L ys d s4 s4v 555 _ hW) (fun z10 s9 hr => ?_)
      obtain ⟨s9v, z10r, hW⟩ := hr
      refine pq_k (pc' := 69) (v := (1, 1)) rfl rfl rfl (fun _ => rfl) ?_
      refine pq_lsub (pc' := 70) rfl rfl ?_
      refine pq_goto (pc' := 80) rfl rfl ?_
      refine pq_w [(1, (2, ((l1 : Nat) : Int)))] ⟨rfl, trivial⟩ ?_
      exact J80 N43 (by omega) l1 (w64 (z10 - 1)) (w64_r _) s9 s9v hW
  unfold C_readParts3 at hW
  refine pq_l (pc' := 1) rfl rfl rfl rfl rfl ?_
  refine pq_gr (pc' := 4) (c := 555) (v := 555) rfl rfl rfl rfl rfl rfl hv ?_
  refine pq_l (pc' := 5) rfl rfl rfl rfl rfl ?_
  refine pq_gr (pc' := 8) (c := (l1 + 1)) (v := 0) rfl rfl rfl rfl rfl rfl hv ?_
  refine pq_cVV (pc' := 11) rfl rfl rfl rfl rfl (c_copy1 L ys d s hv 555 (⟨by decide, by decide⟩ : nb 555) (l1 + 1) _ hW) (fun s11 hr => ?_)
  obtain ⟨s11v, hW⟩ := hr
  refine pq_l (pc' := 12) rfl rfl rfl rfl rfl ?_
  refine pq_gr (pc' := 15) (c := 555) (v := 555) rfl rfl rfl rfl rfl rfl s11v ?_
  refine pq_gi (pc' := 18) rfl rfl rfl rfl rfl (fun r13 => ?_)
  have J215 : ∀ v214 : Int, iR v214 → (((v214 = 0 → (C_readParts3_43 l1 v214 s11 Q)) ∧ (¬ (v214 = 0) → (C_add1 555 553 1 s11 (fun s217 => (C_readParts3_43 l1 v214 s217 Q)))))) → pq L ys d N rm_p_X3_readParts (26, [(0, (2, ((83 : Nat) : Int))), (1, (2, ((l1 : Nat) : Int)))], [(0, v214)], s11) (fun r : im_Re => r.1 = none ∧ (jI r.2 ∧ Q r.2)) := by
    intro v214 v214r hW
    refine pq_s (pc' := 27) rfl rfl rfl rfl rfl ?_
    refine pq_l (pc' := 28) rfl rfl rfl rfl rfl ?_
    refine pq_z_eq (pt := 43) (pc' := 31) rfl rfl rfl (fun c216 => ?_) (fun c216 => ?_)
    · have hW := hW.1 c216
      refine pq_w [(0, (2, ((83 : Nat) : Int))), (1, (2, ((l1 : Nat) : Int))), (2, (0, v214))] ⟨rfl, rfl, rfl, trivial⟩ ?_
      exact J43 N (by omega) l1 v214 v214r s11 s11v hW
    · have hW := hW.2 c216
      refine pq_l (pc' := 32) rfl rfl rfl rfl rfl ?_
      refine pq_gr (pc' := 35) (c := 555) (v := 555) rfl rfl rfl rfl rfl rfl s11v ?_
      refine pq_l (pc' := 36) rfl rfl rfl rfl rfl ?_
      refine pq_gr (pc' := 39) (c := 553) (v := 553) rfl rfl rfl rfl rfl rfl s11v ?_
      refine pq_k (pc' := 40) (v := (0, 1)) rfl rfl rfl (fun _ => rfl) ?_
      refine pq_cVV (pc' := 43) rfl rfl rfl rfl rfl (c_add1 L ys d s11 s11v 555 (⟨by decide, by decide⟩ : nb 555) 553 1 (⟨by decide, by decide⟩ : iR 1) _ hW) (fun s217 hr => ?_)
      obtain ⟨s217v, hW⟩ := hr
      refine pq_w [(0, (2, ((83 : Nat) : Int))), (1, (2, ((l1 : Nat) : Int))), (2, (0, v214))] ⟨rfl, rfl, rfl, trivial⟩ ?_
      exact J43 N (by omega) l1 v214 v214r s217 s217v hW
  refine pq_z_ge (pt := 25) (pc' := 21) rfl rfl rfl (fun c14 => ?_) (fun c14 => ?_)
  · refine pq_k (pc' := 26) (v := (0, 0)) rfl rfl rfl (fun _ => rfl) ?_
    refine pq_w [(0, (2, ((83 : Nat) : Int))), (1, (2, ((l1 : Nat) : Int)))] ⟨rfl, rfl, trivial⟩ ?_
    exact J215 0 (⟨by decide, by decide⟩ : iR 0) (hW _ (by rw [if_pos c14]))
  · refine pq_k (pc' := 22) (v := (0, 1)) rfl rfl rfl (fun _ => rfl) ?_
    refine pq_goto (pc' := 26) rfl rfl ?_
    refine pq_w [(0, (2, ((83 : Nat) : Int))), (1, (2, ((l1 : Nat) : Int)))] ⟨rfl, rfl, trivial⟩ ?_
    exact J215 1 (⟨by decide, by decide⟩ : iR 1) (hW _ (by rw [if_neg (fun z => c14 z)]))
def C_tryFraction3_116 (s : im_S) (Q : im_S → Prop) : Prop := (Q s)
def C_tryFraction3 (l1 : Nat) (l2 : Nat) (s : im_S) (Q : im_S → Prop) : Prop := (C_lead6 l2 s (fun z2 s1 => (C_gcd6 (w64 ((w64 (z2 * (cgf s1 l1 4))) + (ushJ (w64 (z2 * (w64 ((cgf s1 l1 5) + 1)))) 32))) z2 s1 (fun z6 s5 => ((¬ (z6 = 0) → (C_setLinear6 551 (divJ z2 z6) (w64 (-(divJ (w64 ((w64 (z2 * (cgf s1 l1 4))) + (ushJ (w64 (z2 * (w64 ((cgf s1 l1 5) + 1)))) 32))) z6))) s5 (fun s9 => (C_J9_abs_067f4 (divJ (w64 ((w64 (z2 * (cgf s1 l1 4))) + (ushJ (w64 (z2 * (w64 ((cgf s1 l1 5) + 1)))) 32))) z6) s9 (fun z12 s11 => ((1000000000 < z12 → (C_tryFraction3_116 s11 Q)) ∧ (¬ (1000000000 < z12) → (C_divide2 l2 551 s11 (fun z16 s15 => ((z16 = 0 → (C_tryFraction3_116 s15 Q)) ∧ (¬ (z16 = 0) → (C_sideOf3 l1 (divJ (w64 ((w64 (z2 * (cgf s1 l1 4))) + (ushJ (w64 (z2 * (w64 ((cgf s1 l1 5) + 1)))) 32))) z6) (divJ z2 z6) s15 (fun z19 s18 => ((¬ (z19 = 0) → (C_tryFraction3_116 s18 Q)) ∧ (z19 = 0 → (C_setFraction8 l1 (divJ (w64 ((w64 (z2 * (cgf s1 l1 4))) + (ushJ (w64 (z2 * (w64 ((cgf s1 l1 5) + 1)))) 32))) z6) (divJ z2 z6) s18 (fun s21 => (C_tryFraction3_116 s21 Q)))))))))))))))))) ∧ (z6 = 0 → (Q s5)))))))
set_option maxRecDepth 16384 in
theorem c_tryFraction3 (L : Nat) (ys : Nat → Int32) (d : Nat) (s : im_S) (hv : jI s) (l1 : Nat) (l2 : Nat) (Q : im_S → Prop) (hW : C_tryFraction3 l1 l2 s Q) : pcV L ys d 148 [(2, ((83 : Nat) : Int)), (2, ((l1 : Nat) : Int)), (2, ((l2 : Nat) : Int))] s (fun s9 => jI s9 ∧ Q s9) := by
  intro res hres
  refine pq_start (M := rm_p_X3_tryFraction) (Q := (fun r : im_Re => r.1 = none ∧ (jI r.2 ∧ Q r.2))) om_X3_tryFraction (fun d N => ?_) res hres
  refine pq_w [(0, (2, ((83 : Nat) : Int))), (1, (2, ((l1 : Nat) : Int))), (2, (2, ((l2 : Nat) : Int)))] ⟨rfl, rfl, rfl, trivial⟩ ?_
  have J116 : ∀ N116 : Nat, N116 ≤ N → ∀ (s : im_S) (hv : jI s), C_tryFraction3_116 s Q → pq L ys d N116 rm_p_X3_tryFraction (116, [], [], s) (fun r : im_Re => r.1 = none ∧ (jI r.2 ∧ Q r.2)) := by
    intro N116 hN116 s hv hW
    unfold C_tryFraction3_116 at hW
    exact pq_vret rfl ⟨rfl, hv, hW⟩
  unfold C_tryFraction3 at hW
  refine pq_l (pc' := 1) rfl rfl rfl rfl rfl ?_
  refine pq_cVI (pc' := 4) rfl rfl rfl rfl rfl (c_lead6 L ys d s hv l2 _ hW) (fun z2 s1 hr => ?_)
  obtain ⟨s1v, z2r, hW⟩ := hr
  refine pq_s2 (pc' := 5) rfl rfl rfl rfl rfl ?_
  refine pq_l (pc' := 6) rfl rfl rfl rfl rfl ?_
  refine pq_l (pc' := 7) rfl rfl rfl rfl rfl ?_
  refine pq_gj (pc' := 10) rfl rfl rfl rfl (fun r3 => ?_)
  refine pq_lmul (pc' := 11) rfl rfl ?_
  refine pq_l (pc' := 12) rfl rfl rfl rfl rfl ?_
  refine pq_l (pc' := 13) rfl rfl rfl rfl rfl ?_
  refine pq_gj (pc' := 16) rfl rfl rfl rfl (fun r4 => ?_)
  refine pq_k (pc' := 17) (v := (1, 1)) rfl rfl rfl (fun _ => rfl) ?_
  refine pq_ladd (pc' := 18) rfl rfl ?_
  refine pq_lmul (pc' := 19) rfl rfl ?_
  refine pq_k (pc' := 21) (v := (0, 32)) rfl rfl rfl (fun _ => rfl) ?_
  refine pq_lushr (pc' := 22) rfl rfl ?_
  refine pq_ladd (pc' := 23) rfl rfl ?_
  refine pq_s2 (pc' := 25) rfl rfl rfl rfl rfl ?_
  refine pq_l (pc' := 27) rfl rfl rfl rfl rfl ?_
  refine pq_l (pc' := 28) rfl rfl rfl rfl rfl ?_
  refine pq_cSI (pc' := 31) rfl rfl rfl rfl rfl (c_gcd6 L ys d s1 s1v (w64 ((w64 (z2 * (cgf s1 l1 4))) + (ushJ (w64 (z2 * (w64 ((cgf s1 l1 5) + 1)))) 32))) (w64_r _) z2 z2r _ hW) (fun z6 s5 hr => ?_)
  obtain ⟨s5v, z6r, hW⟩ := hr
  refine pq_s2 (pc' := 33) rfl rfl rfl rfl rfl ?_
  refine pq_l (pc' := 35) rfl rfl rfl rfl rfl ?_
  refine pq_k (pc' := 36) (v := (1, 0)) rfl rfl rfl (fun _ => rfl) ?_
  refine pq_lcmp (pc' := 37) rfl rfl z6r (⟨by decide, by decide⟩ : lR 0) (fun z7 z7c => ?_)
  refine pq_z_ne (pt := 41) (pc' := 40) rfl rfl rfl (fun c8 => ?_) (fun c8 => ?_)
  · have c8 : ¬ (z6 = 0) := by omega
    have hW := hW.1 c8
    refine pq_l (pc' := 43) rfl rfl rfl rfl rfl ?_
    refine pq_l (pc' := 45) rfl rfl rfl rfl rfl ?_
    refine pq_ldiv (pc' := 46) rfl rfl ?_
    refine pq_s2 (pc' := 48) rfl rfl rfl rfl rfl ?_
    refine pq_l (pc' := 49) rfl rfl rfl rfl rfl ?_
    refine pq_l (pc' := 51) rfl rfl rfl rfl rfl ?_
    refine pq_ldiv (pc' := 52) rfl rfl ?_
    refine pq_s2 (pc' := 54) rfl rfl rfl rfl rfl ?_
    refine pq_l (pc' := 55) rfl rfl rfl rfl rfl ?_
    refine pq_gr (pc' := 58) (c := 551) (v := 551) rfl rfl rfl rfl rfl rfl s5v ?_
    refine pq_l (pc' := 60) rfl rfl rfl rfl rfl ?_
    refine pq_l (pc' := 62) rfl rfl rfl rfl rfl ?_
    refine pq_lneg (pc' := 63) rfl rfl ?_
    refine pq_cVV (pc' := 66) rfl rfl rfl rfl rfl (c_setLinear6 L ys d s5 s5v 551 (divJ z2 z6) (divJ_r _ _) (w64 (-(divJ (w64 ((w64 (z2 * (cgf s1 l1 4))) + (ushJ (w64 (z2 * (w64 ((cgf s1 l1 5) + 1)))) 32))) z6))) (w64_r _) _ hW) (fun s9 hr => ?_)
    obtain ⟨s9v, hW⟩ := hr
    refine pq_l (pc' := 68) rfl rfl rfl rfl rfl ?_
    refine pq_cSI (pc' := 71) rfl rfl rfl rfl rfl (c_J9_abs_067f4 L ys d s9 s9v (divJ (w64 ((w64 (z2 * (cgf s1 l1 4))) + (ushJ (w64 (z2 * (w64 ((cgf s1 l1 5) + 1)))) 32))) z6) (divJ_r _ _) _ hW) (fun z12 s11 hr => ?_)
    obtain ⟨s11v, z12r, hW⟩ := hr
    refine pq_k (pc' := 74) (v := (1, 1000000000)) rfl rfl rfl (fun _ => rfl) ?_
    refine pq_lcmp (pc' := 75) rfl rfl z12r (⟨by decide, by decide⟩ : lR 1000000000) (fun z13 z13c => ?_)
    refine pq_z_gt (pt := 116) (pc' := 78) rfl rfl rfl (fun c14 => ?_) (fun c14 => ?_)
    · have c14 : 1000000000 < z12 := by omega
      have hW := hW.1 c14
      refine pq_w [] trivial ?_
      exact J116 N (by omega) s11 s11v hW
    · have c14 : ¬ (1000000000 < z12) := by omega
      have hW := hW.2 c14
      refine pq_l (pc' := 79) rfl rfl rfl rfl rfl ?_
      refine pq_gr (pc' := 82) (c := 84) (v := 84) rfl rfl rfl rfl rfl rfl s11v ?_
      refine pq_gr (pc' := 85) (c := 247) (v := 247) rfl rfl rfl rfl rfl rfl s11v ?_
      refine pq_l (pc' := 86) rfl rfl rfl rfl rfl ?_
      refine pq_l (pc' := 87) rfl rfl rfl rfl rfl ?_
      refine pq_gr (pc' := 90) (c := 551) (v := 551) rfl rfl rfl rfl rfl rfl s11v ?_
      refine pq_cVI (pc' := 93) rfl rfl rfl rfl rfl (c_divide2 L ys d s11 s11v l2 551 _ hW) (fun z16 s15 hr => ?_)
      obtain ⟨s15v, z16r, hW⟩ := hr
      refine pq_z_eq (pt := 116) (pc' := 96) rfl rfl rfl (fun c17 => ?_) (fun c17 => ?_)
      · have hW := hW.1 c17
        refine pq_w [] trivial ?_
        exact J116 N (by omega) s15 s15v hW
      · have hW := hW.2 c17
        refine pq_l (pc' := 97) rfl rfl rfl rfl rfl ?_
        refine pq_l (pc' := 98) rfl rfl rfl rfl rfl ?_
        refine pq_l (pc' := 100) rfl rfl rfl rfl rfl ?_
        refine pq_l (pc' := 102) rfl rfl rfl rfl rfl ?_
        refine pq_cVI (pc' := 105) rfl rfl rfl rfl rfl (c_sideOf3 L ys d s15 s15v l1 (divJ (w64 ((w64 (z2 * (cgf s1 l1 4))) + (ushJ (w64 (z2 * (w64 ((cgf s1 l1 5) + 1)))) 32))) z6) (divJ_r _ _) (divJ z2 z6) (divJ_r _ _) _ hW) (fun z19 s18 hr => ?_)
        obtain ⟨s18v, z19r, hW⟩ := hr
        refine pq_z_ne (pt := 116) (pc' := 108) rfl rfl rfl (fun c20 => ?_) (fun c20 => ?_)
        · have hW := hW.1 c20
          refine pq_w [] trivial ?_
          exact J116 N (by omega) s18 s18v hW
        · have hW := hW.2 c20
          refine pq_l (pc' := 109) rfl rfl rfl rfl rfl ?_
          refine pq_l (pc' := 111) rfl rfl rfl rfl rfl ?_
          refine pq_l (pc' := 113) rfl rfl rfl rfl rfl ?_
          refine pq_cVV (pc' := 116) rfl rfl rfl rfl rfl (c_setFraction8 L ys d s18 s18v l1 (divJ (w64 ((w64 (z2 * (cgf s1 l1 4))) + (ushJ (w64 (z2 * (w64 ((cgf s1 l1 5) + 1)))) 32))) z6) (divJ_r _ _) (divJ z2 z6) (divJ_r _ _) _ hW) (fun s21 hr => ?_)
          obtain ⟨s21v, hW⟩ := hr
          refine pq_w [] trivial ?_
          exact J116 N (by omega) s21 s21v hW
  · have c8 : z6 = 0 := by omega
    have hW := hW.2 c8
    exact pq_vret rfl ⟨rfl, s5v, hW⟩
def C_giveOwnPiece3_53 (s : im_S) (Q : im_S → Prop) : Prop := (Q s)
def C_giveOwnPiece3 (l1 : Nat) (l2 : Int) (s : im_S) (Q : im_S → Prop) : Prop := (∀ s1, s1 = cpf s l1 0 l2 → (((cgf s1 (86 + 2 * (l2).toNat) 0) ≤ 1 → (C_giveOwnPiece3_53 s1 Q)) ∧ (¬ ((cgf s1 (86 + 2 * (l2).toNat) 0) ≤ 1) → (C_setLinear6 551 (cgf s1 l1 3) (w64 (-(cgf s1 l1 2))) s1 (fun s7 => (C_splitOff0 l2 551 s7 (fun z10 s9 => (∀ s11, s11 = cpf s9 l1 0 z10 → (C_giveOwnPiece3_53 s11 Q)))))))))
set_option maxRecDepth 16384 in
theorem c_giveOwnPiece3 (L : Nat) (ys : Nat → Int32) (d : Nat) (s : im_S) (hv : jI s) (l1 : Nat) (l2 : Int) (l2r : iR l2) (Q : im_S → Prop) (hW : C_giveOwnPiece3 l1 l2 s Q) : pcV L ys d 134 [(2, ((83 : Nat) : Int)), (2, ((l1 : Nat) : Int)), (0, l2)] s (fun s9 => jI s9 ∧ Q s9) := by
  intro res hres
  refine pq_start (M := rm_p_X3_giveOwnPiece) (Q := (fun r : im_Re => r.1 = none ∧ (jI r.2 ∧ Q r.2))) om_X3_giveOwnPiece (fun d N => ?_) res hres
  refine pq_w [(0, (2, ((83 : Nat) : Int))), (1, (2, ((l1 : Nat) : Int))), (2, (0, l2))] ⟨rfl, rfl, rfl, trivial⟩ ?_
  have J53 : ∀ N53 : Nat, N53 ≤ N → ∀ (s : im_S) (hv : jI s), C_giveOwnPiece3_53 s Q → pq L ys d N53 rm_p_X3_giveOwnPiece (53, [], [], s) (fun r : im_Re => r.1 = none ∧ (jI r.2 ∧ Q r.2)) := by
    intro N53 hN53 s hv hW
    unfold C_giveOwnPiece3_53 at hW
    exact pq_vret rfl ⟨rfl, hv, hW⟩
  unfold C_giveOwnPiece3 at hW
  refine pq_l (pc' := 1) rfl rfl rfl rfl rfl ?_
  refine pq_l (pc' := 2) rfl rfl rfl rfl rfl ?_
  refine pq_pX (pc' := 5) rfl rfl rfl rfl (fun e => absurd e (by decide)) (fun e => absurd e (by decide)) hv (fun s1 s1e s1v => ?_)
  have hW := hW s1 s1e
  refine pq_l (pc' := 6) rfl rfl rfl rfl rfl ?_
  refine pq_gr (pc' := 9) (c := 84) (v := 84) rfl rfl rfl rfl rfl rfl s1v ?_
  refine pq_gr (pc' := 12) (c := 85) (v := 85) rfl rfl rfl rfl rfl rfl s1v ?_
  refine pq_l (pc' := 13) rfl rfl rfl rfl rfl ?_
  refine pq_aa (pc' := 14) (b := 86) (k := 2) (n := 80) (m := 80) rfl rfl rfl rfl rfl s1v (fun r2a r2b => ?_)
  refine pq_gi (pc' := 17) rfl rfl rfl rfl rfl (fun r3 => ?_)
  refine pq_k (pc' := 18) (v := (0, 1)) rfl rfl rfl (fun _ => rfl) ?_
  refine pq_c_le (pt := 53) (pc' := 21) rfl rfl rfl (fun c4 => ?_) (fun c4 => ?_)
  · have hW := hW.1 c4
    refine pq_w [] trivial ?_
    exact J53 N (by omega) s1 s1v hW
  · have hW := hW.2 c4
    refine pq_l (pc' := 22) rfl rfl rfl rfl rfl ?_
    refine pq_gr (pc' := 25) (c := 551) (v := 551) rfl rfl rfl rfl rfl rfl s1v ?_
    refine pq_l (pc' := 26) rfl rfl rfl rfl rfl ?_
    refine pq_gj (pc' := 29) rfl rfl rfl rfl (fun r5 => ?_)
    refine pq_l (pc' := 30) rfl rfl rfl rfl rfl ?_
    refine pq_gj (pc' := 33) rfl rfl rfl rfl (fun r6 => ?_)
    refine pq_lneg (pc' := 34) rfl rfl ?_
    refine pq_cVV (pc' := 37) rfl rfl rfl rfl rfl (c_setLinear6 L ys d s1 s1v 551 (cgf s1 l1 3) r5 (w64 (-(cgf s1 l1 2))) (w64_r _) _ hW) (fun s7 hr => ?_)
    obtain ⟨s7v, hW⟩ := hr
    refine pq_l (pc' := 38) rfl rfl rfl rfl rfl ?_
    refine pq_l (pc' := 39) rfl rfl rfl rfl rfl ?_
    refine pq_gr (pc' := 42) (c := 84) (v := 84) rfl rfl rfl rfl rfl rfl s7v ?_
    refine pq_l (pc' := 43) rfl rfl rfl rfl rfl ?_
    refine pq_l (pc' := 44) rfl rfl rfl rfl rfl ?_
    refine pq_gr (pc' := 47) (c := 551) (v := 551) rfl rfl rfl rfl rfl rfl s7v ?_
    refine pq_cVI (pc' := 50) rfl rfl rfl rfl rfl (c_splitOff0 L ys d s7 s7v l2 l2r 551 _ hW) (fun z10 s9 hr => ?_)
    obtain ⟨s9v, z10r, hW⟩ := hr
    refine pq_pX (pc' := 53) rfl rfl rfl rfl (fun e => absurd e (by decide)) (fun e => absurd e (by decide)) s9v (fun s11 s11e s11v => ?_)
    have hW := hW s11 s11e
    refine pq_w [] trivial ?_
    exact J53 N (by omega) s11 s11v hW
def C_setSigns3_39 (K9 : Int × Int × im_S → Prop) (l1 : Int) (l2 : Int) (l3 : Int) (s : im_S) (Q : im_S → Prop) : Prop := (K9 (l2, (w32 (l3 + (-1))), s))
def C_setSigns3_9 (K9 : Int × Int × im_S → Prop) (l1 : Int) (l2 : Int) (l3 : Int) (s : im_S) (Q : im_S → Prop) : Prop := ((l3 < l1 → (Q s)) ∧ (¬ (l3 < l1) → ((¬ ((cgf s (311 + 3 * (l3).toNat) 1) = 0) → (C_setSigns3_39 K9 l1 l2 l3 s Q)) ∧ ((cgf s (311 + 3 * (l3).toNat) 1) = 0 → (∀ s7, s7 = cpf s (311 + 3 * (l3).toNat) 9 (w32 (-l2)) → (C_setSigns3_39 K9 l1 (w32 (-l2)) l3 s7 Q))))))
def C_setSigns3 (l1 : Int) (s : im_S) (Q : im_S → Prop) : Prop := (ploop (fun (K : Int × Int × im_S → Prop) (a : Int × Int × im_S) => C_setSigns3_9 K l1 a.1 a.2.1 a.2.2 Q) (1, (w32 ((cgf s 83 3) - 1)), s))
set_option maxRecDepth 16384 in
theorem c_setSigns3 (L : Nat) (ys : Nat → Int32) (d : Nat) (s : im_S) (hv : jI s) (l1 : Int) (l1r : iR l1) (Q : im_S → Prop) (hW : C_setSigns3 l1 s Q) : pcV L ys d 140 [(2, ((83 : Nat) : Int)), (0, l1)] s (fun s9 => jI s9 ∧ Q s9) := by
  intro res hres
  refine pq_start (M := rm_p_X3_setSigns) (Q := (fun r : im_Re => r.1 = none ∧ (jI r.2 ∧ Q r.2))) om_X3_setSigns (fun d N => ?_) res hres
  refine pq_w [(0, (2, ((83 : Nat) : Int))), (1, (0, l1))] ⟨rfl, rfl, trivial⟩ ?_
  have J9 : ∀ (l1 : Int) (l1r : iR l1) (I9 : Int × Int × im_S → Prop) (hB9 : ∀ a : Int × Int × im_S, I9 a → C_setSigns3_9 I9 l1 a.1 a.2.1 a.2.2 Q), ∀ N9 : Nat, N9 ≤ N → ∀ (l2 : Int) (l2r : iR l2) (l3 : Int) (l3r : iR l3) (s : im_S) (hv : jI s), I9 (l2, l3, s) → pq L ys d N9 rm_p_X3_setSigns (9, [(0, (2, ((83 : Nat) : Int))), (1, (0, l1)), (2, (0, l2)), (3, (0, l3))], [], s) (fun r : im_Re => r.1 = none ∧ (jI r.2 ∧ Q r.2)) := by
    intro l1 l1r I9 hB9 N9
    induction N9 using Nat.strongRecOn with
    | _ N9 ih9 =>
      intro hN9 l2 l2r l3 l3r s hv hI
      have hW : C_setSigns3_9 I9 l1 l2 l3 s Q := hB9 (l2, l3, s) hI
      have J39 : ∀ N39 : Nat, N39 ≤ N9 → ∀ (l2 : Int) (l2r : iR l2) (l3 : Int) (l3r : iR l3) (s : im_S) (hv : jI s), C_setSigns3_39 I9 l1 l2 l3 s Q → pq L ys d N39 rm_p_X3_setSigns (39, [(0, (2, ((83 : Nat) : Int))), (1, (0, l1)), (2, (0, l2)), (3, (0, l3))], [], s) (fun r : im_Re => r.1 = none ∧ (jI r.2 ∧ Q r.2)) := by
        intro N39 hN39 l2 l2r l3 l3r s hv hW
        unfold C_setSigns3_39 at hW
        refine pq_inc (pc' := 42) rfl rfl rfl rfl ?_
        refine pq_gotoT (pc' := 9) rfl rfl (fun m1 m1l => ?_)
        refine pq_w [(0, (2, ((83 : Nat) : Int))), (1, (0, l1)), (2, (0, l2)), (3, (0, (w32 (l3 + (-1)))))] ⟨rfl, rfl, rfl, rfl, trivial⟩ ?_
        exact ih9 m1 (by omega) (by omega) l2 l2r (w32 (l3 + (-1))) (w32_r _) s hv hW
      unfold C_setSigns3_9 at hW
      refine pq_l (pc' := 10) rfl rfl rfl rfl rfl ?_
      refine pq_l (pc' := 11) rfl rfl rfl rfl rfl ?_
      refine pq_c_lt (pt := 45) (pc' := 14) rfl rfl rfl (fun c2 => ?_) (fun c2 => ?_)
      · have hW := hW.1 c2
        exact pq_vret rfl ⟨rfl, hv, hW⟩
      · have hW := hW.2 c2
        refine pq_l (pc' := 15) rfl rfl rfl rfl rfl ?_
        refine pq_gr (pc' := 18) (c := 310) (v := 310) rfl rfl rfl rfl rfl rfl hv ?_
        refine pq_l (pc' := 19) rfl rfl rfl rfl rfl ?_
        refine pq_aa (pc' := 20) (b := 311) (k := 3) (n := 80) (m := 80) rfl rfl rfl rfl rfl hv (fun r3a r3b => ?_)
        refine pq_gi (pc' := 23) rfl rfl rfl rfl rfl (fun r4 => ?_)
        refine pq_z_ne (pt := 39) (pc' := 26) rfl rfl rfl (fun c5 => ?_) (fun c5 => ?_)
        · have hW := hW.1 c5
          refine pq_w [(0, (2, ((83 : Nat) : Int))), (1, (0, l1)), (2, (0, l2)), (3, (0, l3))] ⟨rfl, rfl, rfl, rfl, trivial⟩ ?_
          exact J39 N9 (by omega) l2 l2r l3 l3r s hv hW
        · have hW := hW.2 c5
          refine pq_l (pc' := 27) rfl rfl rfl rfl rfl ?_
          refine pq_ineg (pc' := 28) rfl rfl ?_
          refine pq_s (pc' := 29) rfl rfl rfl rfl rfl ?_
          refine pq_l (pc' := 30) rfl rfl rfl rfl rfl ?_
          refine pq_gr (pc' := 33) (c := 310) (v := 310) rfl rfl rfl rfl rfl rfl hv ?_
          refine pq_l (pc' := 34) rfl rfl rfl rfl rfl ?_
          refine pq_aa (pc' := 35) (b := 311) (k := 3) (n := 80) (m := 80) rfl rfl rfl rfl rfl hv (fun r6a r6b => ?_)
          refine pq_l (pc' := 36) rfl rfl rfl rfl rfl ?_
          refine pq_pX (pc' := 39) rfl rfl rfl rfl (fun e => absurd e (by decide)) (fun e => absurd e (by decide)) hv (fun s7 s7e s7v => ?_)
          have hW := hW s7 s7e
          refine pq_w [(0, (2, ((83 : Nat) : Int))), (1, (0, l1)), (2, (0, (w32 (-l2)))), (3, (0, l3))] ⟨rfl, rfl, rfl, rfl, trivial⟩ ?_
          exact J39 N9 (by omega) (w32 (-l2)) (w32_r _) l3 l3r s7 s7v hW
  unfold C_setSigns3 at hW
  refine pq_k (pc' := 1) (v := (0, 1)) rfl rfl rfl (fun _ => rfl) ?_
  refine pq_s (pc' := 2) rfl rfl rfl rfl rfl ?_
  refine pq_l (pc' := 3) rfl rfl rfl rfl rfl ?_
  refine pq_gi (pc' := 6) rfl rfl rfl rfl rfl (fun r8 => ?_)
  refine pq_k (pc' := 7) (v := (0, 1)) rfl rfl rfl (fun _ => rfl) ?_
  refine pq_sub (pc' := 8) rfl rfl ?_
  refine pq_s (pc' := 9) rfl rfl rfl rfl rfl ?_
  refine pq_w [(0, (2, ((83 : Nat) : Int))), (1, (0, l1)), (2, (0, 1)), (3, (0, (w32 ((cgf s 83 3) - 1))))] ⟨rfl, rfl, rfl, rfl, trivial⟩ ?_
  obtain ⟨I9, hI9, hB9⟩ := hW
  exact J9 l1 l1r I9 hB9 N (by omega) 1 (⟨by decide, by decide⟩ : iR 1) (w32 ((cgf s 83 3) - 1)) (w32_r _) s hv hI9
def C_settle3_68 (s : im_S) (Q : im_S → Prop) : Prop := (Q s)
def C_settle3_55 (l1 : Nat) (l2 : Int) (s : im_S) (Q : im_S → Prop) : Prop := (((cgf s l1 1) = 0 → (C_settle3_68 s Q)) ∧ (¬ ((cgf s l1 1) = 0) → (C_giveOwnPiece3 l1 l2 s (fun s3 => (C_settle3_68 s3 Q)))))
def C_settle3 (l1 : Nat) (l2 : Int) (s : im_S) (Q : im_S → Prop) : Prop := (∀ s5, s5 = cpf s l1 0 l2 → (C_tighten3 l1 (86 + 2 * (l2).toNat) 32 s5 (fun s7 => (((cgf s7 l1 1) = 0 → (C_readParts3 l1 s7 (fun s11 => (C_tryFraction3 l1 (86 + 2 * (l2).toNat) s11 (fun s14 => (C_settle3_55 l1 l2 s14 Q)))))) ∧ (¬ ((cgf s7 l1 1) = 0) → (C_readBinary3 l1 s7 (fun s16 => (C_settle3_55 l1 l2 s16 Q))))))))
set_option maxRecDepth 16384 in
theorem c_settle3 (L : Nat) (ys : Nat → Int32) (d : Nat) (s : im_S) (hv : jI s) (l1 : Nat) (l1n : nb (l1 + 1)) (l2 : Int) (l2r : iR l2) (Q : im_S → Prop) (hW : C_settle3 l1 l2 s Q) : pcV L ys d 142 [(2, ((83 : Nat) : Int)), (2, ((l1 : Nat) : Int)), (0, l2)] s (fun s9 => jI s9 ∧ Q s9) := by
  intro res hres
  refine pq_start (M := rm_p_X3_settle) (Q := (fun r : im_Re => r.1 = none ∧ (jI r.2 ∧ Q r.2))) om_X3_settle (fun d N => ?_) res hres
  refine pq_w [(0, (2, ((83 : Nat) : Int))), (1, (2, ((l1 : Nat) : Int))), (2, (0, l2))] ⟨rfl, rfl, rfl, trivial⟩ ?_
  have J68 : ∀ N68 : Nat, N68 ≤ N → ∀ (s : im_S) (hv : jI s), C_settle3_68 s Q → pq L ys d N68 rm_p_X3_settle (68, [], [], s) (fun r : im_Re => r.1 = none ∧ (jI r.2 ∧ Q r.2)) := by
    intro N68 hN68 s hv hW
    unfold C_settle3_68 at hW
    exact pq_vret rfl ⟨rfl, hv, hW⟩
  have J55 : ∀ N55 : Nat, N55 ≤ N → ∀ (l1 : Nat) (l1n : nb (l1 + 1)) (l2 : Int) (l2r : iR l2) (s : im_S) (hv : jI s), C_settle3_55 l1 l2 s Q → pq L ys d N55 rm_p_X3_settle (55, [(0, (2, ((83 : Nat) : Int))), (1, (2, ((l1 : Nat) : Int))), (2, (0, l2))], [], s) (fun r : im_Re => r.1 = none ∧ (jI r.2 ∧ Q r.2)) := by
    intro N55 hN55 l1 l1n l2 l2r s hv hW
    unfold C_settle3_55 at hW
    refine pq_l (pc' := 56) rfl rfl rfl rfl rfl ?_
    refine pq_gi (pc' := 59) rfl rfl rfl rfl rfl (fun r1 => ?_)
    refine pq_z_eq (pt := 68) (pc' := 62) rfl rfl rfl (fun c2 => ?_) (fun c2 => ?_)
    · have hW := hW.1 c2
      refine pq_w [] trivial ?_
      exact J68 N55 (by omega) s hv hW
    · have hW := hW.2 c2
      refine pq_l (pc' := 63) rfl rfl rfl rfl rfl ?_
      refine pq_l (pc' := 64) rfl rfl rfl rfl rfl ?_
      refine pq_l (pc' := 65) rfl rfl rfl rfl rfl ?_
      refine pq_cVV (pc' := 68) rfl rfl rfl rfl rfl (c_giveOwnPiece3 L ys d s hv l1 l2 l2r _ hW) (fun s3 hr => ?_)
      obtain ⟨s3v, hW⟩ := hr
      refine pq_w [] trivial ?_
      exact J68 N55 (by omega) s3 s3v hW
  unfold C_settle3 at hW
  refine pq_l (pc' := 1) rfl rfl rfl rfl rfl ?_
  refine pq_l (pc' := 2) rfl rfl rfl rfl rfl ?_
  refine pq_pX (pc' := 5) rfl rfl rfl rfl (fun e => absurd e (by decide)) (fun e => absurd e (by decide)) hv (fun s5 s5e s5v => ?_)
  have hW := hW s5 s5e
  refine pq_l (pc' := 6) rfl rfl rfl rfl rfl ?_
  refine pq_l (pc' := 7) rfl rfl rfl rfl rfl ?_
  refine pq_l (pc' := 8) rfl rfl rfl rfl rfl ?_
  refine pq_gr (pc' := 11) (c := 84) (v := 84) rfl rfl rfl rfl rfl rfl s5v ?_
  refine pq_gr (pc' := 14) (c := 85) (v := 85) rfl rfl rfl rfl rfl rfl s5v ?_
  refine pq_l (pc' := 15) rfl rfl rfl rfl rfl ?_
  refine pq_aa (pc' := 16) (b := 86) (k := 2) (n := 80) (m := 80) rfl rfl rfl rfl rfl s5v (fun r6a r6b => ?_)
  refine pq_k (pc' := 18) (v := (0, 32)) rfl rfl rfl (fun _ => rfl) ?_
  refine pq_cVV (pc' := 21) rfl rfl rfl rfl rfl (c_tighten3 L ys d s5 s5v l1 l1n (86 + 2 * (l2).toNat) 32 (⟨by decide, by decide⟩ : iR 32) _ hW) (fun s7 hr => ?_)
  obtain ⟨s7v, hW⟩ := hr
  refine pq_l (pc' := 22) rfl rfl rfl rfl rfl ?_
  refine pq_gi (pc' := 25) rfl rfl rfl rfl rfl (fun r9 => ?_)
  refine pq_z_eq (pt := 36) (pc' := 28) rfl rfl rfl (fun c10 => ?_) (fun c10 => ?_)
  · have hW := hW.1 c10
    refine pq_l (pc' := 37) rfl rfl rfl rfl rfl ?_
    refine pq_l (pc' := 38) rfl rfl rfl rfl rfl ?_
    refine pq_cVV (pc' := 41) rfl rfl rfl rfl rfl (c_readParts3 L ys d s7 s7v l1 _ hW) (fun s11 hr => ?_)
    obtain ⟨s11v, hW⟩ := hr
    refine pq_l (pc' := 42) rfl rfl rfl rfl rfl ?_
    refine pq_l (pc' := 43) rfl rfl rfl rfl rfl ?_
    refine pq_l (pc' := 44) rfl rfl rfl rfl rfl ?_
    refine pq_gr (pc' := 47) (c := 84) (v := 84) rfl rfl rfl rfl rfl rfl s11v ?_
    refine pq_gr (pc' := 50) (c := 85) (v := 85) rfl rfl rfl rfl rfl rfl s11v ?_
    refine pq_l (pc' := 51) rfl rfl rfl rfl rfl ?_
    refine pq_aa (pc' := 52) (b := 86) (k := 2) (n := 80) (m := 80) rfl rfl rfl rfl rfl s11v (fun r13a r13b => ?_)
    refine pq_cVV (pc' := 55) rfl rfl rfl rfl rfl (c_tryFraction3 L ys d s11 s11v l1 (86 + 2 * (l2).toNat) _ hW) (fun s14 hr => ?_)
    obtain ⟨s14v, hW⟩ := hr
    refine pq_w [(0, (2, ((83 : Nat) : Int))), (1, (2, ((l1 : Nat) : Int))), (2, (0, l2))] ⟨rfl, rfl, rfl, trivial⟩ ?_
    exact J55 N (by omega) l1 l1n l2 l2r s14 s14v hW
  · have hW := hW.2 c10
    refine pq_l (pc' := 29) rfl rfl rfl rfl rfl ?_
    refine pq_l (pc' := 30) rfl rfl rfl rfl rfl ?_
    refine pq_cVV (pc' := 33) rfl rfl rfl rfl rfl (c_readBinary3 L ys d s7 s7v l1 _ hW) (fun s16 hr => ?_)
    obtain ⟨s16v, hW⟩ := hr
    refine pq_goto (pc' := 55) rfl rfl ?_
    refine pq_w [(0, (2, ((83 : Nat) : Int))), (1, (2, ((l1 : Nat) : Int))), (2, (0, l2))] ⟨rfl, rfl, rfl, trivial⟩ ?_
    exact J55 N (by omega) l1 l1n l2 l2r s16 s16v hW
def C_solve3_189 (K155 : Int × im_S → Prop) (l1 : Int) (l3 : Int) (l4 : Int) (s : im_S) (Q : im_S → Prop) : Prop := (K155 ((w32 (l4 + 1)), s))
def C_solve3_155 (K155 : Int × im_S → Prop) (l1 : Int) (l3 : Int) (l4 : Int) (s : im_S) (Q : im_S → Prop) : Prop := (((cgf s 83 3) ≤ l4 → (C_setSigns3 l3 s (fun s4 => (Q s4)))) ∧ (¬ ((cgf s 83 3) ≤ l4) → ((¬ ((cgf s (311 + 3 * (l4).toNat) 1) = 0) → (C_solve3_189 K155 l1 l3 l4 s Q)) ∧ ((cgf s (311 + 3 * (l4).toNat) 1) = 0 → (C_settle3 (311 + 3 * (l4).toNat) l1 s (fun s10 => (C_solve3_189 K155 l1 l3 l4 s10 Q)))))))
def C_solve3_146 (K101 : Int × im_S → Prop) (l1 : Int) (l3 : Int) (l4 : Int) (s : im_S) (Q : im_S → Prop) : Prop := (K101 ((w32 (l4 + 1)), s))
def C_solve3_101 (K101 : Int × im_S → Prop) (l1 : Int) (l3 : Int) (l4 : Int) (s : im_S) (Q : im_S → Prop) : Prop := (((cgf s 83 3) ≤ l4 → (ploop (fun (K : Int × im_S → Prop) (a : Int × im_S) => C_solve3_155 K l1 l3 a.1 a.2 Q) (l3, s))) ∧ (¬ ((cgf s 83 3) ≤ l4) → (((cgf s (311 + 3 * (l4).toNat) 1) = 0 → (C_solve3_146 K101 l1 l3 l4 s Q)) ∧ (¬ ((cgf s (311 + 3 * (l4).toNat) 1) = 0) → (C_readBinary3 (311 + 3 * (l4).toNat) s (fun s19 => (C_giveOwnPiece3 (311 + 3 * (l4).toNat) l1 s19 (fun s22 => (C_solve3_146 K101 l1 l3 l4 s22 Q)))))))))
def C_solve3_81 (l1 : Int) (l2 : Nat) (l3 : Int) (s : im_S) (Q : im_S → Prop) : Prop := (C_part5 l2 l3 s (fun z25 s24 => (∀ s26, s26 = cpf s24 83 3 z25 → (ploop (fun (K : Int × im_S → Prop) (a : Int × im_S) => C_solve3_101 K l1 l3 a.1 a.2 Q) (l3, s26)))))
def C_solve3 (l1 : Int) (s : im_S) (Q : im_S → Prop) : Prop := ((¬ ((cgf s (86 + 2 * (l1).toNat) 0) = 1) → (C_solve3_81 l1 (86 + 2 * (l1).toNat) (cgf s 83 3) s Q)) ∧ ((cgf s (86 + 2 * (l1).toNat) 0) = 1 → ((80 ≤ (cgf s 83 3) → (C_solve3_81 l1 (86 + 2 * (l1).toNat) (cgf s 83 3) s Q)) ∧ (¬ (80 ≤ (cgf s 83 3)) → (∀ s35, s35 = cpf s (311 + 3 * ((cgf s 83 3)).toNat) 0 l1 → (caJ s35 ((86 + 2 * (l1).toNat) + 1) 0 → (caJ s35 ((86 + 2 * (l1).toNat) + 1) 1 → (C_setFraction8 (311 + 3 * ((cgf s35 83 3)).toNat) (w64 (-(cga s35 ((86 + 2 * (l1).toNat) + 1) 0))) (cga s35 ((86 + 2 * (l1).toNat) + 1) 1) s35 (fun s40 => (∀ s43, s43 = cpf s40 83 3 (w32 ((cgf s40 83 3) + 1)) → (Q s43)))))))))))
set_option maxRecDepth 16384 in
theorem c_solve3 (L : Nat) (ys : Nat → Int32) (d : Nat) (s : im_S) (hv : jI s) (l1 : Int) (l1r : iR l1) (Q : im_S → Prop) (hW : C_solve3 l1 s Q) : pcV L ys d 145 [(2, ((83 : Nat) : Int)), (0, l1)] s (fun s9 => jI s9 ∧ Q s9) := by
  intro res hres
  refine pq_start (M := rm_p_X3_solve) (Q := (fun r : im_Re => r.1 = none ∧ (jI r.2 ∧ Q r.2))) om_X3_solve (fun d N => ?_) res hres
  refine pq_w [(0, (2, ((83 : Nat) : Int))), (1, (0, l1))] ⟨rfl, rfl, trivial⟩ ?_
  have J155 : ∀ (l1 : Int) (l1r : iR l1) (l3 : Int) (l3r : iR l3) (I155 : Int × im_S → Prop) (hB155 : ∀ a : Int × im_S, I155 a → C_solve3_155 I155 l1 l3 a.1 a.2 Q), ∀ N155 : Nat, N155 ≤ N → ∀ (l4 : Int) (l4r : iR l4) (s : im_S) (hv : jI s), I155 (l4, s) → pq L ys d N155 rm_p_X3_solve (155, [(0, (2, ((83 : Nat) : Int))), (1, (0, l1)), (3, (0, l3)), (4, (0, l4))], [], s) (fun r : im_Re => r.1 = none ∧ (jI r.2 ∧ Q r.2)) := by
    intro l1 l1r l3 l3r I155 hB155 N155
    induction N155 using Nat.strongRecOn with
    | _ N155 ih155 =>
      intro hN155 l4 l4r s hv hI
      have hW : C_solve3_155 I155 l1 l3 l4 s Q := hB155 (l4, s) hI
      have J189 : ∀ N189 : Nat, N189 ≤ N155 → ∀ (l4 : Int) (l4r : iR l4) (s : im_S) (hv : jI s), C_solve3_189 I155 l1 l3 l4 s Q → pq L ys d N189 rm_p_X3_solve (189, [(0, (2, ((83 : Nat) : Int))), (1, (0, l1)), (3, (0, l3)), (4, (0, l4))], [], s) (fun r : im_Re => r.1 = none ∧ (jI r.2 ∧ Q r.2)) := by
        intro N189 hN189 l4 l4r s hv hW
        unfold C_solve3_189 at hW
        refine pq_inc (pc' := 192) rfl rfl rfl rfl ?_
        refine pq_gotoT (pc' := 155) rfl rfl (fun m1 m1l => ?_)
        refine pq_w [(0, (2, ((83 : Nat) : Int))), (1, (0, l1)), (3, (0, l3)), (4, (0, (w32 (l4 + 1))))] ⟨rfl, rfl, rfl, rfl, trivial⟩ ?_
        exact ih155 m1 (by omega) (by omega) (w32 (l4 + 1)) (w32_r _) s hv hW
      unfold C_solve3_155 at hW
      refine pq_l (pc' := 157) rfl rfl rfl rfl rfl ?_
      refine pq_l (pc' := 158) rfl rfl rfl rfl rfl ?_
      refine pq_gi (pc' := 161) rfl rfl rfl rfl rfl (fun r2 => ?_)
      refine pq_c_ge (pt := 195) (pc' := 164) rfl rfl rfl (fun c3 => ?_) (fun c3 => ?_)
      · have hW := hW.1 c3
        refine pq_l (pc' := 196) rfl rfl rfl rfl rfl ?_
        refine pq_l (pc' := 197) rfl rfl rfl rfl rfl ?_
        refine pq_cVV (pc' := 200) rfl rfl rfl rfl rfl (c_setSigns3 L ys d s hv l3 l3r _ hW) (fun s4 hr => ?_)
        obtain ⟨s4v, hW⟩ := hr
        exact pq_vret rfl ⟨rfl, s4v, hW⟩
      · have hW := hW.2 c3
        refine pq_l (pc' := 165) rfl rfl rfl rfl rfl ?_
        refine pq_gr (pc' := 168) (c := 310) (v := 310) rfl rfl rfl rfl rfl rfl hv ?_
        refine pq_l (pc' := 170) rfl rfl rfl rfl rfl ?_
        refine pq_aa (pc' := 171) (b := 311) (k := 3) (n := 80) (m := 80) rfl rfl rfl rfl rfl hv (fun r6a r6b => ?_)
        refine pq_gi (pc' := 174) rfl rfl rfl rfl rfl (fun r7 => ?_)
        refine pq_z_ne (pt := 189) (pc' := 177) rfl rfl rfl (fun c8 => ?_) (fun c8 => ?_)
        · have hW := hW.1 c8
          refine pq_w [(0, (2, ((83 : Nat) : Int))), (1, (0, l1)), (3, (0, l3)), (4, (0, l4))] ⟨rfl, rfl, rfl, rfl, trivial⟩ ?_
          exact J189 N155 (by omega) l4 l4r s hv hW
        · have hW := hW.2 c8
          refine pq_l (pc' := 178) rfl rfl rfl rfl rfl ?_
          refine pq_l (pc' := 179) rfl rfl rfl rfl rfl ?_
          refine pq_gr (pc' := 182) (c := 310) (v := 310) rfl rfl rfl rfl rfl rfl hv ?_
          refine pq_l (pc' := 184) rfl rfl rfl rfl rfl ?_
          refine pq_aa (pc' := 185) (b := 311) (k := 3) (n := 80) (m := 80) rfl rfl rfl rfl rfl hv (fun r9a r9b => ?_)
          refine pq_l (pc' := 186) rfl rfl rfl rfl rfl ?_
          refine pq_cVV (pc' := 189) rfl rfl rfl rfl rfl (c_settle3 L ys d s hv (311 + 3 * (l4).toNat) (⟨by omega, by omega⟩ : nb ((311 + 3 * (l4).toNat) + 1)) l1 l1r _ hW) (fun s10 hr => ?_)
          obtain ⟨s10v, hW⟩ := hr
          refine pq_w [(0, (2, ((83 : Nat) : Int))), (1, (0, l1)), (3, (0, l3)), (4, (0, l4))] ⟨rfl, rfl, rfl, rfl, trivial⟩ ?_
          exact J189 N155 (by omega) l4 l4r s10 s10v hW
  have J101 : ∀ (l1 : Int) (l1r : iR l1) (l3 : Int) (l3r : iR l3) (I101 : Int × im_S → Prop) (hB101 : ∀ a : Int × im_S, I101 a → C_solve3_101 I101 l1 l3 a.1 a.2 Q), ∀ N101 : Nat, N101 ≤ N → ∀ (l4 : Int) (l4r : iR l4) (s : im_S) (hv : jI s), I101 (l4, s) → pq L ys d N101 rm_p_X3_solve (101, [(0, (2, ((83 : Nat) : Int))), (1, (0, l1)), (3, (0, l3)), (4, (0, l4))], [], s) (fun r : im_Re => r.1 = none ∧ (jI r.2 ∧ Q r.2)) := by
    intro l1 l1r l3 l3r I101 hB101 N101
    induction N101 using Nat.strongRecOn with
    | _ N101 ih101 =>
      intro hN101 l4 l4r s hv hI
      have hW : C_solve3_101 I101 l1 l3 l4 s Q := hB101 (l4, s) hI
      have J146 : ∀ N146 : Nat, N146 ≤ N101 → ∀ (l4 : Int) (l4r : iR l4) (s : im_S) (hv : jI s), C_solve3_146 I101 l1 l3 l4 s Q → pq L ys d N146 rm_p_X3_solve (146, [(0, (2, ((83 : Nat) : Int))), (1, (0, l1)), (3, (0, l3)), (4, (0, l4))], [], s) (fun r : im_Re => r.1 = none ∧ (jI r.2 ∧ Q r.2)) := by
        intro N146 hN146 l4 l4r s hv hW
        unfold C_solve3_146 at hW
        refine pq_inc (pc' := 149) rfl rfl rfl rfl ?_
        refine pq_gotoT (pc' := 101) rfl rfl (fun m12 m12l => ?_)
        refine pq_w [(0, (2, ((83 : Nat) : Int))), (1, (0, l1)), (3, (0, l3)), (4, (0, (w32 (l4 + 1))))] ⟨rfl, rfl, rfl, rfl, trivial⟩ ?_
        exact ih101 m12 (by omega) (by omega) (w32 (l4 + 1)) (w32_r _) s hv hW
      unfold C_solve3_101 at hW
      refine pq_l (pc' := 103) rfl rfl rfl rfl rfl ?_
      refine pq_l (pc' := 104) rfl rfl rfl rfl rfl ?_
      refine pq_gi (pc' := 107) rfl rfl rfl rfl rfl (fun r13 => ?_)
      refine pq_c_ge (pt := 152) (pc' := 110) rfl rfl rfl (fun c14 => ?_) (fun c14 => ?_)
      · have hW := hW.1 c14
        refine pq_l (pc' := 153) rfl rfl rfl rfl rfl ?_
        refine pq_s (pc' := 155) rfl rfl rfl rfl rfl ?_
        refine pq_w [(0, (2, ((83 : Nat) : Int))), (1, (0, l1)), (3, (0, l3)), (4, (0, l3))] ⟨rfl, rfl, rfl, rfl, trivial⟩ ?_
        obtain ⟨I9, hI9, hB9⟩ := hW
        exact J155 l1 l1r l3 l3r I9 hB9 N101 (by omega) l3 l3r s hv hI9
      · have hW := hW.2 c14
        refine pq_l (pc' := 111) rfl rfl rfl rfl rfl ?_
        refine pq_gr (pc' := 114) (c := 310) (v := 310) rfl rfl rfl rfl rfl rfl hv ?_
        refine pq_l (pc' := 116) rfl rfl rfl rfl rfl ?_
        refine pq_aa (pc' := 117) (b := 311) (k := 3) (n := 80) (m := 80) rfl rfl rfl rfl rfl hv (fun r15a r15b => ?_)
        refine pq_gi (pc' := 120) rfl rfl rfl rfl rfl (fun r16 => ?_)
        refine pq_z_eq (pt := 146) (pc' := 123) rfl rfl rfl (fun c17 => ?_) (fun c17 => ?_)
        · have hW := hW.1 c17
          refine pq_w [(0, (2, ((83 : Nat) : Int))), (1, (0, l1)), (3, (0, l3)), (4, (0, l4))] ⟨rfl, rfl, rfl, rfl, trivial⟩ ?_
          exact J146 N101 (by omega) l4 l4r s hv hW
        · have hW := hW.2 c17
          refine pq_l (pc' := 124) rfl rfl rfl rfl rfl ?_
          refine pq_l (pc' := 125) rfl rfl rfl rfl rfl ?_
          refine pq_gr (pc' := 128) (c := 310) (v := 310) rfl rfl rfl rfl rfl rfl hv ?_
          refine pq_l (pc' := 130) rfl rfl rfl rfl rfl ?_
          refine pq_aa (pc' := 131) (b := 311) (k := 3) (n := 80) (m := 80) rfl rfl rfl rfl rfl hv (fun r18a r18b => ?_)
          refine pq_cVV (pc' := 134) rfl rfl rfl rfl rfl (c_readBinary3 L ys d s hv (311 + 3 * (l4).toNat) _ hW) (fun s19 hr => ?_)
          obtain ⟨s19v, hW⟩ := hr
          refine pq_l (pc' := 135) rfl rfl rfl rfl rfl ?_
          refine pq_l (pc' := 136) rfl rfl rfl rfl rfl ?_
          refine pq_gr (pc' := 139) (c := 310) (v := 310) rfl rfl rfl rfl rfl rfl s19v ?_
          refine pq_l (pc' := 141) rfl rfl rfl rfl rfl ?_
          refine pq_aa (pc' := 142) (b := 311) (k := 3) (n := 80) (m := 80) rfl rfl rfl rfl rfl s19v (fun r21a r21b => ?_)
          refine pq_l (pc' := 143) rfl rfl rfl rfl rfl ?_
          refine pq_cVV (pc' := 146) rfl rfl rfl rfl rfl (c_giveOwnPiece3 L ys d s19 s19v (311 + 3 * (l4).toNat) l1 l1r _ hW) (fun s22 hr => ?_)
          obtain ⟨s22v, hW⟩ := hr
          refine pq_w [(0, (2, ((83 : Nat) : Int))), (1, (0, l1)), (3, (0, l3)), (4, (0, l4))] ⟨rfl, rfl, rfl, rfl, trivial⟩ ?_
          exact J146 N101 (by omega) l4 l4r s22 s22v hW
  have J81 : ∀ N81 : Nat, N81 ≤ N → ∀ (l1 : Int) (l1r : iR l1) (l2 : Nat) (l3 : Int) (l3r : iR l3) (s : im_S) (hv : jI s), C_solve3_81 l1 l2 l3 s Q → pq L ys d N81 rm_p_X3_solve (81, [(0, (2, ((83 : Nat) : Int))), (1, (0, l1)), (2, (2, ((l2 : Nat) : Int))), (3, (0, l3))], [], s) (fun r : im_Re => r.1 = none ∧ (jI r.2 ∧ Q r.2)) := by
    intro N81 hN81 l1 l1r l2 l3 l3r s hv hW
    unfold C_solve3_81 at hW
    refine pq_l (pc' := 82) rfl rfl rfl rfl rfl ?_
    refine pq_l (pc' := 83) rfl rfl rfl rfl rfl ?_
    refine pq_gr (pc' := 86) (c := 267) (v := 267) rfl rfl rfl rfl rfl rfl hv ?_
    refine pq_l (pc' := 87) rfl rfl rfl rfl rfl ?_
    refine pq_l (pc' := 88) rfl rfl rfl rfl rfl ?_
    refine pq_gr (pc' := 91) (c := 310) (v := 310) rfl rfl rfl rfl rfl rfl hv ?_
    refine pq_l (pc' := 92) rfl rfl rfl rfl rfl ?_
    refine pq_cVI (pc' := 95) rfl rfl rfl rfl rfl (c_part5 L ys d s hv l2 l3 l3r _ hW) (fun z25 s24 hr => ?_)
    obtain ⟨s24v, z25r, hW⟩ := hr
    refine pq_pX (pc' := 98) rfl rfl rfl rfl (fun _ => Or.inl (by decide)) (fun e => absurd e (by decide)) s24v (fun s26 s26e s26v => ?_)
    have hW := hW s26 s26e
    refine pq_l (pc' := 99) rfl rfl rfl rfl rfl ?_
    refine pq_s (pc' := 101) rfl rfl rfl rfl rfl ?_
    refine pq_w [(0, (2, ((83 : Nat) : Int))), (1, (0, l1)), (3, (0, l3)), (4, (0, l3))] ⟨rfl, rfl, rfl, rfl, trivial⟩ ?_
    obtain ⟨I9, hI9, hB9⟩ := hW
    exact J101 l1 l1r l3 l3r I9 hB9 N81 (by omega) l3 l3r s26 s26v hI9
  unfold C_solve3 at hW
  refine pq_l (pc' := 1) rfl rfl rfl rfl rfl ?_
  refine pq_gr (pc' := 4) (c := 84) (v := 84) rfl rfl rfl rfl rfl rfl hv ?_
  refine pq_gr (pc' := 7) (c := 85) (v := 85) rfl rfl rfl rfl rfl rfl hv ?_
  refine pq_l (pc' := 8) rfl rfl rfl rfl rfl ?_
  refine pq_aa (pc' := 9) (b := 86) (k := 2) (n := 80) (m := 80) rfl rfl rfl rfl rfl hv (fun r27a r27b => ?_)
  refine pq_s (pc' := 10) rfl rfl rfl rfl rfl ?_
  refine pq_l (pc' := 11) rfl rfl rfl rfl rfl ?_
  refine pq_gi (pc' := 14) rfl rfl rfl rfl rfl (fun r28 => ?_)
  refine pq_s (pc' := 15) rfl rfl rfl rfl rfl ?_
  refine pq_l (pc' := 16) rfl rfl rfl rfl rfl ?_
  refine pq_gi (pc' := 19) rfl rfl rfl rfl rfl (fun r29 => ?_)
  refine pq_k (pc' := 20) (v := (0, 1)) rfl rfl rfl (fun _ => rfl) ?_
  refine pq_c_ne (pt := 81) (pc' := 23) rfl rfl rfl (fun c30 => ?_) (fun c30 => ?_)
  · have hW := hW.1 c30
    refine pq_w [(0, (2, ((83 : Nat) : Int))), (1, (0, l1)), (2, (2, (((86 + 2 * (l1).toNat) : Nat) : Int))), (3, (0, (cgf s 83 3)))] ⟨rfl, rfl, rfl, rfl, trivial⟩ ?_
    exact J81 N (by omega) l1 l1r (86 + 2 * (l1).toNat) (cgf s 83 3) r28 s hv hW
  · have hW := hW.2 c30
    refine pq_l (pc' := 24) rfl rfl rfl rfl rfl ?_
    refine pq_gi (pc' := 27) rfl rfl rfl rfl rfl (fun r31 => ?_)
    refine pq_k (pc' := 29) (v := (0, 80)) rfl rfl rfl (fun _ => rfl) ?_
    refine pq_c_ge (pt := 81) (pc' := 32) rfl rfl rfl (fun c32 => ?_) (fun c32 => ?_)
    · have hW := hW.1 c32
      refine pq_w [(0, (2, ((83 : Nat) : Int))), (1, (0, l1)), (2, (2, (((86 + 2 * (l1).toNat) : Nat) : Int))), (3, (0, (cgf s 83 3)))] ⟨rfl, rfl, rfl, rfl, trivial⟩ ?_
      exact J81 N (by omega) l1 l1r (86 + 2 * (l1).toNat) (cgf s 83 3) r28 s hv hW
    · have hW := hW.2 c32
      refine pq_l (pc' := 33) rfl rfl rfl rfl rfl ?_
      refine pq_gr (pc' := 36) (c := 310) (v := 310) rfl rfl rfl rfl rfl rfl hv ?_
      refine pq_l (pc' := 37) rfl rfl rfl rfl rfl ?_
      refine pq_gi (pc' := 40) rfl rfl rfl rfl rfl (fun r33 => ?_)
      refine pq_aa (pc' := 41) (b := 311) (k := 3) (n := 80) (m := 80) rfl rfl rfl rfl rfl hv (fun r34a r34b => ?_)
      refine pq_l (pc' := 42) rfl rfl rfl rfl rfl ?_
      refine pq_pX (pc' := 45) rfl rfl rfl rfl (fun e => absurd e (by decide)) (fun e => absurd e (by decide)) hv (fun s35 s35e s35v => ?_)
      have hW := hW s35 s35e
      refine pq_l (pc' := 46) rfl rfl rfl rfl rfl ?_
      refine pq_gr (pc' := 49) (c := 310) (v := 310) rfl rfl rfl rfl rfl rfl s35v ?_
      refine pq_l (pc' := 50) rfl rfl rfl rfl rfl ?_
      refine pq_gi (pc' := 53) rfl rfl rfl rfl rfl (fun r36 => ?_)
      refine pq_aa (pc' := 54) (b := 311) (k := 3) (n := 80) (m := 80) rfl rfl rfl rfl rfl s35v (fun r37a r37b => ?_)
      refine pq_l (pc' := 55) rfl rfl rfl rfl rfl ?_
      refine pq_gr (pc' := 58) (c := ((86 + 2 * (l1).toNat) + 1)) (v := 0) rfl rfl rfl rfl rfl rfl s35v ?_
      refine pq_k (pc' := 59) (v := (0, 0)) rfl rfl rfl (fun _ => rfl) ?_
      refine pq_la (pc' := 60) rfl rfl (fun r38a r38b r38 => ?_)
      have hW := hW ⟨⟨r38a, r38b⟩, r38⟩
      refine pq_lneg (pc' := 61) rfl rfl ?_
      refine pq_l (pc' := 62) rfl rfl rfl rfl rfl ?_
      refine pq_gr (pc' := 65) (c := ((86 + 2 * (l1).toNat) + 1)) (v := 0) rfl rfl rfl rfl rfl rfl s35v ?_
      refine pq_k (pc' := 66) (v := (0, 1)) rfl rfl rfl (fun _ => rfl) ?_
      refine pq_la (pc' := 67) rfl rfl (fun r39a r39b r39 => ?_)
      have hW := hW ⟨⟨r39a, r39b⟩, r39⟩
      refine pq_cVV (pc' := 70) rfl rfl rfl rfl rfl (c_setFraction8 L ys d s35 s35v (311 + 3 * ((cgf s35 83 3)).toNat) (w64 (-(cga s35 ((86 + 2 * (l1).toNat) + 1) 0))) (w64_r _) (cga s35 ((86 + 2 * (l1).toNat) + 1) 1) r39 _ hW) (fun s40 hr => ?_)
      obtain ⟨s40v, hW⟩ := hr
      refine pq_l (pc' := 71) rfl rfl rfl rfl rfl ?_
      refine pq_x (pc' := 72) rfl rfl rfl (fun _ => rfl) ?_
      refine pq_gi (pc' := 75) rfl rfl rfl rfl rfl (fun r42 => ?_)
      refine pq_k (pc' := 76) (v := (0, 1)) rfl rfl rfl (fun _ => rfl) ?_
      refine pq_add (pc' := 77) rfl rfl ?_
      refine pq_pX (pc' := 80) rfl rfl rfl rfl (fun _ => Or.inl (by decide)) (fun e => absurd e (by decide)) s40v (fun s43 s43e s43v => ?_)
      have hW := hW s43 s43e
      exact pq_vret rfl ⟨rfl, s43v, hW⟩
def C_signAtFraction3_44 (K44 : Int × im_S → Prop) (l1 : Nat) (l6 : Int) (s : im_S) (Q : Int → im_S → Prop) : Prop := ((l6 < 0 → (Q (cgf s (crf s 83 16) 2) s)) ∧ (¬ (l6 < 0) → (C_setProduct1 565 (crf s 83 16) 561 s (fun s3 => (C_copy1 (crf s3 83 16) 565 s3 (fun s5 => (C_setProduct1 565 567 555 s5 (fun s7 => (C_copy1 567 565 s7 (fun s9 => (caJ s9 (l1 + 1) l6 → (C_set1 563 (cga s9 (l1 + 1) l6) s9 (fun s12 => (C_setProduct1 565 567 563 s12 (fun s14 => (C_add1 (crf s14 83 16) 565 1 s14 (fun s16 => (K44 ((w32 (l6 + (-1))), s16)))))))))))))))))))
def C_signAtFraction3 (l1 : Nat) (l2 : Int) (l4 : Int) (s : im_S) (Q : Int → im_S → Prop) : Prop := (C_set1 561 l2 s (fun s19 => (C_set1 555 l4 s19 (fun s21 => (C_set1 567 1 s21 (fun s23 => (C_lead6 l1 s23 (fun z26 s25 => (C_set1 (crf s23 83 16) z26 s25 (fun s27 => (ploop (fun (K : Int × im_S → Prop) (a : Int × im_S) => C_signAtFraction3_44 K l1 a.1 a.2 Q) ((w32 ((cgf s27 l1 0) - 1)), s27))))))))))))
set_option maxRecDepth 16384 in
theorem c_signAtFraction3 (L : Nat) (ys : Nat → Int32) (d : Nat) (s : im_S) (hv : jI s) (l1 : Nat) (l2 : Int) (l2r : lR l2) (l4 : Int) (l4r : lR l4) (Q : Int → im_S → Prop) (hW : C_signAtFraction3 l1 l2 l4 s Q) : pcI L ys 0 d 144 [(2, ((83 : Nat) : Int)), (2, ((l1 : Nat) : Int)), (1, l2), (1, l4)] s (fun z9 s9 => jI s9 ∧ iR z9 ∧ Q z9 s9) := by
  intro res hres
  refine pq_start (M := rm_p_X3_signAtFraction) (Q := (fun r : im_Re => ∃ z, r.1 = some (0, z) ∧ (jI r.2 ∧ iR z ∧ Q z r.2))) om_X3_signAtFraction (fun d N => ?_) res hres
  refine pq_w [(0, (2, ((83 : Nat) : Int))), (1, (2, ((l1 : Nat) : Int))), (2, (1, l2)), (4, (1, l4))] ⟨rfl, rfl, rfl, rfl, trivial⟩ ?_
  have J44 : ∀ (l1 : Nat) (I44 : Int × im_S → Prop) (hB44 : ∀ a : Int × im_S, I44 a → C_signAtFraction3_44 I44 l1 a.1 a.2 Q), ∀ N44 : Nat, N44 ≤ N → ∀ (l6 : Int) (l6r : iR l6) (s : im_S) (hv : jI s), I44 (l6, s) → pq L ys d N44 rm_p_X3_signAtFraction (44, [(0, (2, ((83 : Nat) : Int))), (1, (2, ((l1 : Nat) : Int))), (6, (0, l6))], [], s) (fun r : im_Re => ∃ z, r.1 = some (0, z) ∧ (jI r.2 ∧ iR z ∧ Q z r.2)) := by
    intro l1 I44 hB44 N44
    induction N44 using Nat.strongRecOn with
    | _ N44 ih44 =>
      intro hN44 l6 l6r s hv hI
      have hW : C_signAtFraction3_44 I44 l1 l6 s Q := hB44 (l6, s) hI
      unfold C_signAtFraction3_44 at hW
      refine pq_l (pc' := 46) rfl rfl rfl rfl rfl ?_
      refine pq_z_lt (pt := 148) (pc' := 49) rfl rfl rfl (fun c1 => ?_) (fun c1 => ?_)
      · have hW := hW.1 c1
        refine pq_l (pc' := 149) rfl rfl rfl rfl rfl ?_
        refine pq_gm (pc' := 152) rfl rfl rfl rfl (jI_m0 hv).2.2.2 ?_
        refine pq_gi (pc' := 155) rfl rfl rfl rfl rfl (fun r2 => ?_)
        exact pq_iret rfl ⟨_, rfl, hv, r2, hW⟩
      · have hW := hW.2 c1
        refine pq_l (pc' := 50) rfl rfl rfl rfl rfl ?_
        refine pq_gr (pc' := 53) (c := 565) (v := 565) rfl rfl rfl rfl rfl rfl hv ?_
        refine pq_l (pc' := 54) rfl rfl rfl rfl rfl ?_
        refine pq_gm (pc' := 57) rfl rfl rfl rfl (jI_m0 hv).2.2.2 ?_
        refine pq_l (pc' := 58) rfl rfl rfl rfl rfl ?_
        refine pq_gr (pc' := 61) (c := 561) (v := 561) rfl rfl rfl rfl rfl rfl hv ?_
        refine pq_cVV (pc' := 64) rfl rfl rfl rfl rfl (c_setProduct1 L ys d s hv 565 (⟨by decide, by decide⟩ : nb 565) (crf s 83 16) 561 _ hW) (fun s3 hr => ?_)
        obtain ⟨s3v, hW⟩ := hr
        refine pq_l (pc' := 65) rfl rfl rfl rfl rfl ?_
        refine pq_gm (pc' := 68) rfl rfl rfl rfl (jI_m0 s3v).2.2.2 ?_
        refine pq_l (pc' := 69) rfl rfl rfl rfl rfl ?_
        refine pq_gr (pc' := 72) (c := 565) (v := 565) rfl rfl rfl rfl rfl rfl s3v ?_
        refine pq_cVV (pc' := 75) rfl rfl rfl rfl rfl (c_copy1 L ys d s3 s3v (crf s3 83 16) (m4_nb (jI_m s3v).2.2.2) 565 _ hW) (fun s5 hr => ?_)
        obtain ⟨s5v, hW⟩ := hr
        refine pq_l (pc' := 76) rfl rfl rfl rfl rfl ?_
        refine pq_gr (pc' := 79) (c := 565) (v := 565) rfl rfl rfl rfl rfl rfl s5v ?_
        refine pq_l (pc' := 80) rfl rfl rfl rfl rfl ?_
        refine pq_gr (pc' := 83) (c := 567) (v := 567) rfl rfl rfl rfl rfl rfl s5v ?_
        refine pq_l (pc' := 84) rfl rfl rfl rfl rfl ?_
        refine pq_gr (pc' := 87) (c := 555) (v := 555) rfl rfl rfl rfl rfl rfl s5v ?_
        refine pq_cVV (pc' := 90) rfl rfl rfl rfl rfl (c_setProduct1 L ys d s5 s5v 565 (⟨by decide, by decide⟩ : nb 565) 567 555 _ hW) (fun s7 hr => ?_)
        obtain ⟨s7v, hW⟩ := hr
        refine pq_l (pc' := 91) rfl rfl rfl rfl rfl ?_
        refine pq_gr (pc' := 94) (c := 567) (v := 567) rfl rfl rfl rfl rfl rfl s7v ?_
        refine pq_l (pc' := 95) rfl rfl rfl rfl rfl ?_
        refine pq_gr (pc' := 98) (c := 565) (v := 565) rfl rfl rfl rfl rfl rfl s7v ?_
        refine pq_cVV (pc' := 101) rfl rfl rfl rfl rfl (c_copy1 L ys d s7 s7v 567 (⟨by decide, by decide⟩ : nb 567) 565 _ hW) (fun s9 hr => ?_)
        obtain ⟨s9v, hW⟩ := hr
        refine pq_l (pc' := 102) rfl rfl rfl rfl rfl ?_
        refine pq_gr (pc' := 105) (c := 563) (v := 563) rfl rfl rfl rfl rfl rfl s9v ?_
        refine pq_l (pc' := 106) rfl rfl rfl rfl rfl ?_
        refine pq_gr (pc' := 109) (c := (l1 + 1)) (v := 0) rfl rfl rfl rfl rfl rfl s9v ?_
        refine pq_l (pc' := 111) rfl rfl rfl rfl rfl ?_
        refine pq_la (pc' := 112) rfl rfl (fun r11a r11b r11 => ?_)
        have hW := hW ⟨⟨r11a, r11b⟩, r11⟩
        refine pq_cVV (pc' := 115) rfl rfl rfl rfl rfl (c_set1 L ys d s9 s9v 563 (⟨by decide, by decide⟩ : nb 563) (cga s9 (l1 + 1) l6) r11 _ hW) (fun s12 hr => ?_)
        obtain ⟨s12v, hW⟩ := hr
        refine pq_l (pc' := 116) rfl rfl rfl rfl rfl ?_
        refine pq_gr (pc' := 119) (c := 565) (v := 565) rfl rfl rfl rfl rfl rfl s12v ?_
        refine pq_l (pc' := 120) rfl rfl rfl rfl rfl ?_
        refine pq_gr (pc' := 123) (c := 567) (v := 567) rfl rfl rfl rfl rfl rfl s12v ?_
        refine pq_l (pc' := 124) rfl rfl rfl rfl rfl ?_
        refine pq_gr (pc' := 127) (c := 563) (v := 563) rfl rfl rfl rfl rfl rfl s12v ?_
        refine pq_cVV (pc' := 130) rfl rfl rfl rfl rfl (c_setProduct1 L ys d s12 s12v 565 (⟨by decide, by decide⟩ : nb 565) 567 563 _ hW) (fun s14 hr => ?_)
        obtain ⟨s14v, hW⟩ := hr
        refine pq_l (pc' := 131) rfl rfl rfl rfl rfl ?_
        refine pq_gm (pc' := 134) rfl rfl rfl rfl (jI_m0 s14v).2.2.2 ?_
        refine pq_l (pc' := 135) rfl rfl rfl rfl rfl ?_
        refine pq_gr (pc' := 138) (c := 565) (v := 565) rfl rfl rfl rfl rfl rfl s14v ?_
        refine pq_k (pc' := 139) (v := (0, 1)) rfl rfl rfl (fun _ => rfl) ?_
        refine pq_cVV (pc' := 142) rfl rfl rfl rfl rfl (c_add1 L ys d s14 s14v (crf s14 83 16) (m4_nb (jI_m s14v).2.2.2) 565 1 (⟨by decide, by decide⟩ : iR 1) _ hW) (fun s16 hr => ?_)
        obtain ⟨s16v, hW⟩ := hr
        refine pq_inc (pc' := 145) rfl rfl rfl rfl ?_
        refine pq_gotoT (pc' := 44) rfl rfl (fun m18 m18l => ?_)
        refine pq_w [(0, (2, ((83 : Nat) : Int))), (1, (2, ((l1 : Nat) : Int))), (6, (0, (w32 (l6 + (-1)))))] ⟨rfl, rfl, rfl, trivial⟩ ?_
        exact ih44 m18 (by omega) (by omega) (w32 (l6 + (-1))) (w32_r _) s16 s16v hW
  unfold C_signAtFraction3 at hW
  refine pq_l (pc' := 1) rfl rfl rfl rfl rfl ?_
  refine pq_gr (pc' := 4) (c := 561) (v := 561) rfl rfl rfl rfl rfl rfl hv ?_
  refine pq_l (pc' := 5) rfl rfl rfl rfl rfl ?_
  refine pq_cVV (pc' := 8) rfl rfl rfl rfl rfl (c_set1 L ys d s hv 561 (⟨by decide, by decide⟩ : nb 561) l2 l2r _ hW) (fun s19 hr => ?_)
  obtain ⟨s19v, hW⟩ := hr
  refine pq_l (pc' := 9) rfl rfl rfl rfl rfl ?_
  refine pq_gr (pc' := 12) (c := 555) (v := 555) rfl rfl rfl rfl rfl rfl s19v ?_
  refine pq_l (pc' := 14) rfl rfl rfl rfl rfl ?_
  refine pq_cVV (pc' := 17) rfl rfl rfl rfl rfl (c_set1 L ys d s19 s19v 555 (⟨by decide, by decide⟩ : nb 555) l4 l4r _ hW) (fun s21 hr => ?_)
  obtain ⟨s21v, hW⟩ := hr
  refine pq_l (pc' := 18) rfl rfl rfl rfl rfl ?_
  refine pq_gr (pc' := 21) (c := 567) (v := 567) rfl rfl rfl rfl rfl rfl s21v ?_
  refine pq_k (pc' := 22) (v := (1, 1)) rfl rfl rfl (fun _ => rfl) ?_
  refine pq_cVV (pc' := 25) rfl rfl rfl rfl rfl (c_set1 L ys d s21 s21v 567 (⟨by decide, by decide⟩ : nb 567) 1 (⟨by decide, by decide⟩ : lR 1) _ hW) (fun s23 hr => ?_)
  obtain ⟨s23v, hW⟩ := hr
  refine pq_l (pc' := 26) rfl rfl rfl rfl rfl ?_
  refine pq_gm (pc' := 29) rfl rfl rfl rfl (jI_m0 s23v).2.2.2 ?_
  refine pq_l (pc' := 30) rfl rfl rfl rfl rfl ?_
  refine pq_cVI (pc' := 33) rfl rfl rfl rfl rfl (c_lead6 L ys d s23 s23v l1 _ hW) (fun z26 s25 hr => ?_)
  obtain ⟨s25v, z26r, hW⟩ := hr
  refine pq_cVV (pc' := 36) rfl rfl rfl rfl rfl (c_set1 L ys d s25 s25v (crf s23 83 16) (m4_nb (jI_m s23v).2.2.2) z26 z26r _ hW) (fun s27 hr => ?_)
  obtain ⟨s27v, hW⟩ := hr
  refine pq_l (pc' := 37) rfl rfl rfl rfl rfl ?_
  refine pq_gi (pc' := 40) rfl rfl rfl rfl rfl (fun r29 => ?_)
  refine pq_k (pc' := 41) (v := (0, 1)) rfl rfl rfl (fun _ => rfl) ?_
  refine pq_sub (pc' := 42) rfl rfl ?_
  refine pq_s (pc' := 44) rfl rfl rfl rfl rfl ?_
  refine pq_w [(0, (2, ((83 : Nat) : Int))), (1, (2, ((l1 : Nat) : Int))), (6, (0, (w32 ((cgf s27 l1 0) - 1))))] ⟨rfl, rfl, rfl, trivial⟩ ?_
  obtain ⟨I9, hI9, hB9⟩ := hW
  exact J44 l1 I9 hB9 N (by omega) (w32 ((cgf s27 l1 0) - 1)) (w32_r _) s27 s27v hI9
def C_compareWith3 (l1 : Nat) (l2 : Int) (l4 : Int) (l6 : Int) (s : im_S) (Q : Int → im_S → Prop) : Prop := (((cgf s l1 4) = l2 → (((cgf s l1 1) = 0 → (((w64 ((cgf s l1 5) * l6)) < (shlJ l4 32) → (((shlJ l4 32) < (w64 ((w64 ((cgf s l1 5) + 1)) * l6)) → (C_sideOf3 l1 (w64 ((w64 (l2 * l6)) + l4)) l6 s (fun z13 s12 => ((z13 = 0 → (C_signAtFraction3 (86 + 2 * ((cgf s12 l1 0)).toNat) (w64 ((w64 (l2 * l6)) + l4)) l6 s12 (fun z18 s17 => (∀ v220 : Int, v220 = (if ¬ (z18 = (cgf s17 l1 9)) then (-1) else 1) → (Q v220 s17))))) ∧ (¬ (z13 = 0) → (Q (w32 (-z13)) s12)))))) ∧ (¬ ((shlJ l4 32) < (w64 ((w64 ((cgf s l1 5) + 1)) * l6))) → (Q (-1) s)))) ∧ (¬ ((w64 ((cgf s l1 5) * l6)) < (shlJ l4 32)) → (Q 1 s)))) ∧ (¬ ((cgf s l1 1) = 0) → (C_J13_compare_74951 (w64 ((cgf s l1 5) * l6)) (w64 (l4 * (cgf s l1 3))) s (fun z225 s224 => (Q z225 s224)))))) ∧ (¬ ((cgf s l1 4) = l2) → (C_J13_compare_74951 (cgf s l1 4) l2 s (fun z228 s227 => (Q z228 s227)))))
set_option maxRecDepth 16384 in
theorem c_compareWith3 (L : Nat) (ys : Nat → Int32) (d : Nat) (s : im_S) (hv : jI s) (l1 : Nat) (l2 : Int) (l2r : lR l2) (l4 : Int) (l4r : lR l4) (l6 : Int) (l6r : lR l6) (Q : Int → im_S → Prop) (hW : C_compareWith3 l1 l2 l4 l6 s Q) : pcI L ys 0 d 133 [(2, ((83 : Nat) : Int)), (2, ((l1 : Nat) : Int)), (1, l2), (1, l4), (1, l6)] s (fun z9 s9 => jI s9 ∧ iR z9 ∧ Q z9 s9) := by
  intro res hres
  refine pq_start (M := rm_p_X3_compareWith) (Q := (fun r : im_Re => ∃ z, r.1 = some (0, z) ∧ (jI r.2 ∧ iR z ∧ Q z r.2))) om_X3_compareWith (fun d N => ?_) res hres
  refine pq_w [(0, (2, ((83 : Nat) : Int))), (1, (2, ((l1 : Nat) : Int))), (2, (1, l2)), (4, (1, l4)), (6, (1, l6))] ⟨rfl, rfl, rfl, rfl, rfl, trivial⟩ ?_
  unfold C_compareWith3 at hW
  refine pq_l (pc' := 1) rfl rfl rfl rfl rfl ?_
  refine pq_gj (pc' := 4) rfl rfl rfl rfl (fun r1 => ?_)
  refine pq_l (pc' := 5) rfl rfl rfl rfl rfl ?_
  refine pq_lcmp (pc' := 6) rfl rfl r1 l2r (fun z2 z2c => ?_)
  refine pq_z_eq (pt := 18) (pc' := 9) rfl rfl rfl (fun c3 => ?_) (fun c3 => ?_)
  · have c3 : (cgf s l1 4) = l2 := by omega
    have hW := hW.1 c3
    refine pq_l (pc' := 19) rfl rfl rfl rfl rfl ?_
    refine pq_gi (pc' := 22) rfl rfl rfl rfl rfl (fun r4 => ?_)
    refine pq_z_eq (pt := 43) (pc' := 25) rfl rfl rfl (fun c5 => ?_) (fun c5 => ?_)
    · have hW := hW.1 c5
      refine pq_l (pc' := 45) rfl rfl rfl rfl rfl ?_
      refine pq_k (pc' := 47) (v := (0, 32)) rfl rfl rfl (fun _ => rfl) ?_
      refine pq_lshl (pc' := 48) rfl rfl ?_
      refine pq_l (pc' := 49) rfl rfl rfl rfl rfl ?_
      refine pq_gj (pc' := 52) rfl rfl rfl rfl (fun r6 => ?_)
      refine pq_l (pc' := 54) rfl rfl rfl rfl rfl ?_
      refine pq_lmul (pc' := 55) rfl rfl ?_
      refine pq_lcmp (pc' := 56) rfl rfl (shlJ_r _ _) (w64_r _) (fun z7 z7c => ?_)
      refine pq_z_gt (pt := 61) (pc' := 59) rfl rfl rfl (fun c8 => ?_) (fun c8 => ?_)
      · have c8 : (w64 ((cgf s l1 5) * l6)) < (shlJ l4 32) := by omega
        have hW := hW.1 c8
        refine pq_l (pc' := 63) rfl rfl rfl rfl rfl ?_
        refine pq_k (pc' := 65) (v := (0, 32)) rfl rfl rfl (fun _ => rfl) ?_
        refine pq_lshl (pc' := 66) rfl rfl ?_
        refine pq_l (pc' := 67) rfl rfl rfl rfl rfl ?_
        refine pq_gj (pc' := 70) rfl rfl rfl rfl (fun r9 => ?_)
        refine pq_k (pc' := 71) (v := (1, 1)) rfl rfl rfl (fun _ => rfl) ?_
        refine pq_ladd (pc' := 72) rfl rfl ?_
        refine pq_l (pc' := 74) rfl rfl rfl rfl rfl ?_
        refine pq_lmul (pc' := 75) rfl rfl ?_
        refine pq_lcmp (pc' := 76) rfl rfl (shlJ_r _ _) (w64_r _) (fun z10 z10c => ?_)
        refine pq_z_lt (pt := 81) (pc' := 79) rfl rfl rfl (fun c11 => ?_) (fun c11 => ?_)
        · have c11 : (shlJ l4 32) < (w64 ((w64 ((cgf s l1 5) + 1)) * l6)) := by omega
          have hW := hW.1 c11
          refine pq_l (pc' := 82) rfl rfl rfl rfl rfl ?_
          refine pq_l (pc' := 84) rfl rfl rfl rfl rfl ?_
          refine pq_lmul (pc' := 85) rfl rfl ?_
          refine pq_l (pc' := 87) rfl rfl rfl rfl rfl ?_
          refine pq_ladd (pc' := 88) rfl rfl ?_
          refine pq_s2 (pc' := 90) rfl rfl rfl rfl rfl ?_
          refine pq_l (pc' := 91) rfl rfl rfl rfl rfl ?_
          refine pq_l (pc' := 92) rfl rfl rfl rfl rfl ?_
          refine pq_l (pc' := 94) rfl rfl rfl rfl rfl ?_
          refine pq_l (pc' := 96) rfl rfl rfl rfl rfl ?_
          refine pq_cVI (pc' := 99) rfl rfl rfl rfl rfl (c_sideOf3 L ys d s hv l1 (w64 ((w64 (l2 * l6)) + l4)) (w64_r _) l6 l6r _ hW) (fun z13 s12 hr => ?_)
          obtain ⟨s12v, z13r, hW⟩ := hr
          refine pq_s (pc' := 101) rfl rfl rfl rfl rfl ?_
          refine pq_l (pc' := 103) rfl rfl rfl rfl rfl ?_
          refine pq_z_eq (pt := 110) (pc' := 106) rfl rfl rfl (fun c14 => ?_) (fun c14 => ?_)
          · have hW := hW.1 c14
            refine pq_l (pc' := 111) rfl rfl rfl rfl rfl ?_
            refine pq_l (pc' := 112) rfl rfl rfl rfl rfl ?_
            refine pq_gr (pc' := 115) (c := 84) (v := 84) rfl rfl rfl rfl rfl rfl s12v ?_
            refine pq_gr (pc' := 118) (c := 85) (v := 85) rfl rfl rfl rfl rfl rfl s12v ?_
            refine pq_l (pc' := 119) rfl rfl rfl rfl rfl ?_
            refine pq_gi (pc' := 122) rfl rfl rfl rfl rfl (fun r15 => ?_)
            refine pq_aa (pc' := 123) (b := 86) (k := 2) (n := 80) (m := 80) rfl rfl rfl rfl rfl s12v (fun r16a r16b => ?_)
            refine pq_l (pc' := 125) rfl rfl rfl rfl rfl ?_
            refine pq_l (pc' := 127) rfl rfl rfl rfl rfl ?_
            refine pq_cVI (pc' := 130) rfl rfl rfl rfl rfl (c_signAtFraction3 L ys d s12 s12v (86 + 2 * ((cgf s12 l1 0)).toNat) (w64 ((w64 (l2 * l6)) + l4)) (w64_r _) l6 l6r _ hW) (fun z18 s17 hr => ?_)
            obtain ⟨s17v, z18r, hW⟩ := hr
            refine pq_l (pc' := 131) rfl rfl rfl rfl rfl ?_
            refine pq_gi (pc' := 134) rfl rfl rfl rfl rfl (fun r19 => ?_)
            have J221 : ∀ v220 : Int, iR v220 → ((Q v220 s17)) → pq L ys d N rm_p_X3_compareWith (142, [], [(0, v220)], s17) (fun r : im_Re => ∃ z, r.1 = some (0, z) ∧ (jI r.2 ∧ iR z ∧ Q z r.2)) := by
              intro v220 v220r hW
              exact pq_iret rfl ⟨_, rfl, s17v, v220r, hW⟩
            refine pq_c_ne (pt := 141) (pc' := 137) rfl rfl rfl (fun c20 => ?_) (fun c20 => ?_)
            · refine pq_k (pc' := 142) (v := (0, (-1))) rfl rfl rfl (fun _ => rfl) ?_
              refine pq_w [] trivial ?_
              exact J221 (-1) (⟨by decide, by decide⟩ : iR (-1)) (hW _ (by rw [if_pos c20]))
            · refine pq_k (pc' := 138) (v := (0, 1)) rfl rfl rfl (fun _ => rfl) ?_
              refine pq_goto (pc' := 142) rfl rfl ?_
              refine pq_w [] trivial ?_
              exact J221 1 (⟨by decide, by decide⟩ : iR 1) (hW _ (by rw [if_neg (by omega)]))
          · have hW := hW.2 c14
            refine pq_l (pc' := 108) rfl rfl rfl rfl rfl ?_
            refine pq_ineg (pc' := 109) rfl rfl ?_
            exact pq_iret rfl ⟨_, rfl, s12v, (w32_r _), hW⟩
        · have c11 : ¬ ((shlJ l4 32) < (w64 ((w64 ((cgf s l1 5) + 1)) * l6))) := by omega
          have hW := hW.2 c11
          refine pq_k (pc' := 80) (v := (0, (-1))) rfl rfl rfl (fun _ => rfl) ?_
          exact pq_iret rfl ⟨_, rfl, hv, (⟨by decide, by decide⟩ : iR (-1)), hW⟩
      · have c8 : ¬ ((w64 ((cgf s l1 5) * l6)) < (shlJ l4 32)) := by omega
        have hW := hW.2 c8
        refine pq_k (pc' := 60) (v := (0, 1)) rfl rfl rfl (fun _ => rfl) ?_
        exact pq_iret rfl ⟨_, rfl, hv, (⟨by decide, by decide⟩ : iR 1), hW⟩
    · have hW := hW.2 c5
      refine pq_l (pc' := 26) rfl rfl rfl rfl rfl ?_
      refine pq_gj (pc' := 29) rfl rfl rfl rfl (fun r222 => ?_)
      refine pq_l (pc' := 31) rfl rfl rfl rfl rfl ?_
      refine pq_lmul (pc' := 32) rfl rfl ?_
      refine pq_l (pc' := 34) rfl rfl rfl rfl rfl ?_
      refine pq_l (pc' := 35) rfl rfl rfl rfl rfl ?_
      refine pq_gj (pc' := 38) rfl rfl rfl rfl (fun r223 => ?_)
      refine pq_lmul (pc' := 39) rfl rfl ?_
      refine pq_cSI (pc' := 42) rfl rfl rfl rfl rfl (c_J13_compare_74951 L ys d s hv (w64 ((cgf s l1 5) * l6)) (w64_r _) (w64 (l4 * (cgf s l1 3))) (w64_r _) _ hW) (fun z225 s224 hr => ?_)
      obtain ⟨s224v, z225r, hW⟩ := hr
      exact pq_iret rfl ⟨_, rfl, s224v, z225r, hW⟩
  · have c3 : ¬ ((cgf s l1 4) = l2) := by omega
    have hW := hW.2 c3
    refine pq_l (pc' := 10) rfl rfl rfl rfl rfl ?_
    refine pq_gj (pc' := 13) rfl rfl rfl rfl (fun r226 => ?_)
    refine pq_l (pc' := 14) rfl rfl rfl rfl rfl ?_
    refine pq_cSI (pc' := 17) rfl rfl rfl rfl rfl (c_J13_compare_74951 L ys d s hv (cgf s l1 4) r226 l2 l2r _ hW) (fun z228 s227 hr => ?_)
    obtain ⟨s227v, z228r, hW⟩ := hr
    exact pq_iret rfl ⟨_, rfl, s227v, z228r, hW⟩
def C_compareQuickly3_88 (k0 : Int) (s : im_S) (Q : Int → im_S → Prop) : Prop := (Q k0 s)
def C_compareQuickly3 (l1 : Nat) (l2 : Nat) (s : im_S) (Q : Int → im_S → Prop) : Prop := (((cgf s l2 1) = 0 → (((cgf s l1 1) = 0 → (((cgf s l1 4) = (cgf s l2 4) → (C_J13_compare_74951 (cgf s l1 5) (cgf s l2 5) s (fun z12 s11 => (C_compareQuickly3_88 z12 s11 Q)))) ∧ (¬ ((cgf s l1 4) = (cgf s l2 4)) → (C_J13_compare_74951 (cgf s l1 4) (cgf s l2 4) s (fun z16 s15 => (C_compareQuickly3_88 z16 s15 Q)))))) ∧ (¬ ((cgf s l1 1) = 0) → (C_compareWith3 l2 (cgf s l1 4) (cgf s l1 5) (cgf s l1 3) s (fun z21 s20 => (Q (w32 (-z21)) s20)))))) ∧ (¬ ((cgf s l2 1) = 0) → (C_compareWith3 l1 (cgf s l2 4) (cgf s l2 5) (cgf s l2 3) s (fun z26 s25 => (Q z26 s25)))))
set_option maxRecDepth 16384 in
theorem c_compareQuickly3 (L : Nat) (ys : Nat → Int32) (d : Nat) (s : im_S) (hv : jI s) (l1 : Nat) (l2 : Nat) (Q : Int → im_S → Prop) (hW : C_compareQuickly3 l1 l2 s Q) : pcI L ys 0 d 132 [(2, ((83 : Nat) : Int)), (2, ((l1 : Nat) : Int)), (2, ((l2 : Nat) : Int))] s (fun z9 s9 => jI s9 ∧ iR z9 ∧ Q z9 s9) := by
  intro res hres
  refine pq_start (M := rm_p_X3_compareQuickly) (Q := (fun r : im_Re => ∃ z, r.1 = some (0, z) ∧ (jI r.2 ∧ iR z ∧ Q z r.2))) om_X3_compareQuickly (fun d N => ?_) res hres
  refine pq_w [(0, (2, ((83 : Nat) : Int))), (1, (2, ((l1 : Nat) : Int))), (2, (2, ((l2 : Nat) : Int)))] ⟨rfl, rfl, rfl, trivial⟩ ?_
  have J88 : ∀ N88 : Nat, N88 ≤ N → ∀ (k0 : Int) (k0r : iR k0) (s : im_S) (hv : jI s), C_compareQuickly3_88 k0 s Q → pq L ys d N88 rm_p_X3_compareQuickly (88, [], [(0, k0)], s) (fun r : im_Re => ∃ z, r.1 = some (0, z) ∧ (jI r.2 ∧ iR z ∧ Q z r.2)) := by
    intro N88 hN88 k0 k0r s hv hW
    unfold C_compareQuickly3_88 at hW
    exact pq_iret rfl ⟨_, rfl, hv, k0r, hW⟩
  unfold C_compareQuickly3 at hW
  refine pq_l (pc' := 1) rfl rfl rfl rfl rfl ?_
  refine pq_gi (pc' := 4) rfl rfl rfl rfl rfl (fun r1 => ?_)
  refine pq_z_eq (pt := 25) (pc' := 7) rfl rfl rfl (fun c2 => ?_) (fun c2 => ?_)
  · have hW := hW.1 c2
    refine pq_l (pc' := 26) rfl rfl rfl rfl rfl ?_
    refine pq_gi (pc' := 29) rfl rfl rfl rfl rfl (fun r3 => ?_)
    refine pq_z_eq (pt := 51) (pc' := 32) rfl rfl rfl (fun c4 => ?_) (fun c4 => ?_)
    · have hW := hW.1 c4
      refine pq_l (pc' := 52) rfl rfl rfl rfl rfl ?_
      refine pq_gj (pc' := 55) rfl rfl rfl rfl (fun r5 => ?_)
      refine pq_l (pc' := 56) rfl rfl rfl rfl rfl ?_
      refine pq_gj (pc' := 59) rfl rfl rfl rfl (fun r6 => ?_)
      refine pq_lcmp (pc' := 60) rfl rfl r5 r6 (fun z7 z7c => ?_)
      refine pq_z_eq (pt := 77) (pc' := 63) rfl rfl rfl (fun c8 => ?_) (fun c8 => ?_)
      · have c8 : (cgf s l1 4) = (cgf s l2 4) := by omega
        have hW := hW.1 c8
        refine pq_l (pc' := 78) rfl rfl rfl rfl rfl ?_
        refine pq_gj (pc' := 81) rfl rfl rfl rfl (fun r9 => ?_)
        refine pq_l (pc' := 82) rfl rfl rfl rfl rfl ?_
        refine pq_gj (pc' := 85) rfl rfl rfl rfl (fun r10 => ?_)
        refine pq_cSI (pc' := 88) rfl rfl rfl rfl rfl (c_J13_compare_74951 L ys d s hv (cgf s l1 5) r9 (cgf s l2 5) r10 _ hW) (fun z12 s11 hr => ?_)
        obtain ⟨s11v, z12r, hW⟩ := hr
        refine pq_w [] trivial ?_
        exact J88 N (by omega) z12 z12r s11 s11v hW
      · have c8 : ¬ ((cgf s l1 4) = (cgf s l2 4)) := by omega
        have hW := hW.2 c8
        refine pq_l (pc' := 64) rfl rfl rfl rfl rfl ?_
        refine pq_gj (pc' := 67) rfl rfl rfl rfl (fun r13 => ?_)
        refine pq_l (pc' := 68) rfl rfl rfl rfl rfl ?_
        refine pq_gj (pc' := 71) rfl rfl rfl rfl (fun r14 => ?_)
        refine pq_cSI (pc' := 74) rfl rfl rfl rfl rfl (c_J13_compare_74951 L ys d s hv (cgf s l1 4) r13 (cgf s l2 4) r14 _ hW) (fun z16 s15 hr => ?_)
        obtain ⟨s15v, z16r, hW⟩ := hr
        refine pq_goto (pc' := 88) rfl rfl ?_
        refine pq_w [] trivial ?_
        exact J88 N (by omega) z16 z16r s15 s15v hW
    · have hW := hW.2 c4
      refine pq_l (pc' := 33) rfl rfl rfl rfl rfl ?_
      refine pq_l (pc' := 34) rfl rfl rfl rfl rfl ?_
      refine pq_l (pc' := 35) rfl rfl rfl rfl rfl ?_
      refine pq_gj (pc' := 38) rfl rfl rfl rfl (fun r17 => ?_)
      refine pq_l (pc' := 39) rfl rfl rfl rfl rfl ?_
      refine pq_gj (pc' := 42) rfl rfl rfl rfl (fun r18 => ?_)
      refine pq_l (pc' := 43) rfl rfl rfl rfl rfl ?_
      refine pq_gj (pc' := 46) rfl rfl rfl rfl (fun r19 => ?_)
      refine pq_cVI (pc' := 49) rfl rfl rfl rfl rfl (c_compareWith3 L ys d s hv l2 (cgf s l1 4) r17 (cgf s l1 5) r18 (cgf s l1 3) r19 _ hW) (fun z21 s20 hr => ?_)
      obtain ⟨s20v, z21r, hW⟩ := hr
      refine pq_ineg (pc' := 50) rfl rfl ?_
      exact pq_iret rfl ⟨_, rfl, s20v, (w32_r _), hW⟩
  · have hW := hW.2 c2
    refine pq_l (pc' := 8) rfl rfl rfl rfl rfl ?_
    refine pq_l (pc' := 9) rfl rfl rfl rfl rfl ?_
    refine pq_l (pc' := 10) rfl rfl rfl rfl rfl ?_
    refine pq_gj (pc' := 13) rfl rfl rfl rfl (fun r22 => ?_)
    refine pq_l (pc' := 14) rfl rfl rfl rfl rfl ?_
    refine pq_gj (pc' := 17) rfl rfl rfl rfl (fun r23 => ?_)
    refine pq_l (pc' := 18) rfl rfl rfl rfl rfl ?_
    refine pq_gj (pc' := 21) rfl rfl rfl rfl (fun r24 => ?_)
    refine pq_cVI (pc' := 24) rfl rfl rfl rfl rfl (c_compareWith3 L ys d s hv l1 (cgf s l2 4) r22 (cgf s l2 5) r23 (cgf s l2 3) r24 _ hW) (fun z26 s25 hr => ?_)
    obtain ⟨s25v, z26r, hW⟩ := hr
    exact pq_iret rfl ⟨_, rfl, s25v, z26r, hW⟩
def C_compareDeeply3_153 (l4 : Int) (s : im_S) (Q : Int → im_S → Prop) : Prop := (∀ v201 : Int, v201 = (if l4 = 0 then 1 else (-1)) → (Q v201 s))
def C_compareDeeply3_2 (K2 : Int × im_S → Prop) (l1 : Nat) (l2 : Nat) (l3 : Int) (s : im_S) (Q : Int → im_S → Prop) : Prop := ((10000 ≤ l3 → (Q 0 s)) ∧ (¬ (10000 ≤ l3) → (∀ v406 : Int, v406 = (if (cgf s l2 7) < (cgf s l1 7) then 0 else 1) → (∀ v608 : Nat, v608 = (if v406 = 0 then l2 else l1) → (∀ v810 : Nat, v810 = (if v406 = 0 then l1 else l2) → (C_copy1 555 (v608 + 1) s (fun s814 => (C_shiftUp1 555 (w32 ((cgf s v810 7) - (cgf s v608 7))) s814 (fun s816 => (C_copy1 557 (v810 + 1) s816 (fun s818 => (C_add1 557 555 (-1) s818 (fun s820 => ((0 ≤ (cgf s820 557 2) → (C_bits1 557 s820 (fun z825 s824 => (((w32 ((cgf s v810 7) - (cgf s v608 7))) < z825 → (C_compareDeeply3_153 v406 s824 Q)) ∧ (¬ ((w32 ((cgf s v810 7) - (cgf s v608 7))) < z825) → (((cgf s824 v608 7) < 640 → (C_tighten3 v608 (86 + 2 * ((cgf s824 v608 0)).toNat) (w32 ((cgf s824 v608 7) + (cgf s824 v608 8))) s824 (fun s833 => (K2 ((w32 (l3 + 1)), s833))))) ∧ (¬ ((cgf s824 v608 7) < 640) → (C_compareDeeply3_153 v406 s824 Q)))))))) ∧ (¬ (0 ≤ (cgf s820 557 2)) → (∀ v1036 : Int, v1036 = (if v406 = 0 then (-1) else 1) → (Q v1036 s820)))))))))))))))))
def C_compareDeeply3 (l1 : Nat) (l2 : Nat) (s : im_S) (Q : Int → im_S → Prop) : Prop := (ploop (fun (K : Int × im_S → Prop) (a : Int × im_S) => C_compareDeeply3_2 K l1 l2 a.1 a.2 Q) (0, s))
set_option maxRecDepth 16384 in
theorem c_compareDeeply3 (L : Nat) (ys : Nat → Int32) (d : Nat) (s : im_S) (hv : jI s) (l1 : Nat) (l1n : nb (l1 + 1)) (l2 : Nat) (l2n : nb (l2 + 1)) (Q : Int → im_S → Prop) (hW : C_compareDeeply3 l1 l2 s Q) : pcI L ys 0 d 131 [(2, ((83 : Nat) : Int)), (2, ((l1 : Nat) : Int)), (2, ((l2 : Nat) : Int))] s (fun z9 s9 => jI s9 ∧ iR z9 ∧ Q z9 s9) := by
  intro res hres
  refine pq_start (M := rm_p_X3_compareDeeply) (Q := (fun r : im_Re => ∃ z, r.1 = some (0, z) ∧ (jI r.2 ∧ iR z ∧ Q z r.2))) om_X3_compareDeeply (fun d N => ?_) res hres
  refine pq_w [(0, (2, ((83 : Nat) : Int))), (1, (2, ((l1 : Nat) : Int))), (2, (2, ((l2 : Nat) : Int)))] ⟨rfl, rfl, rfl, trivial⟩ ?_
  have J153 : ∀ N153 : Nat, N153 ≤ N → ∀ (l4 : Int) (l4r : iR l4) (s : im_S) (hv : jI s), C_compareDeeply3_153 l4 s Q → pq L ys d N153 rm_p_X3_compareDeeply (153, [(4, (0, l4))], [], s) (fun r : im_Re => ∃ z, r.1 = some (0, z) ∧ (jI r.2 ∧ iR z ∧ Q z r.2)) := by
    intro N153 hN153 l4 l4r s hv hW
    unfold C_compareDeeply3_153 at hW
    refine pq_l (pc' := 155) rfl rfl rfl rfl rfl ?_
    have J202 : ∀ v201 : Int, iR v201 → ((Q v201 s)) → pq L ys d N153 rm_p_X3_compareDeeply (163, [], [(0, v201)], s) (fun r : im_Re => ∃ z, r.1 = some (0, z) ∧ (jI r.2 ∧ iR z ∧ Q z r.2)) := by
      intro v201 v201r hW
      exact pq_iret rfl ⟨_, rfl, hv, v201r, hW⟩
    refine pq_z_eq (pt := 162) (pc' := 158) rfl rfl rfl (fun c1 => ?_) (fun c1 => ?_)
    · refine pq_k (pc' := 163) (v := (0, 1)) rfl rfl rfl (fun _ => rfl) ?_
      refine pq_w [] trivial ?_
      exact J202 1 (⟨by decide, by decide⟩ : iR 1) (hW _ (by rw [if_pos c1]))
    · refine pq_k (pc' := 159) (v := (0, (-1))) rfl rfl rfl (fun _ => rfl) ?_
      refine pq_goto (pc' := 163) rfl rfl ?_
      refine pq_w [] trivial ?_
      exact J202 (-1) (⟨by decide, by decide⟩ : iR (-1)) (hW _ (by rw [if_neg (fun z => c1 z)]))
  have J2 : ∀ (l1 : Nat) (l1n : nb (l1 + 1)) (l2 : Nat) (l2n : nb (l2 + 1)) (I2 : Int × im_S → Prop) (hB2 : ∀ a : Int × im_S, I2 a → C_compareDeeply3_2 I2 l1 l2 a.1 a.2 Q), ∀ N2 : Nat, N2 ≤ N → ∀ (l3 : Int) (l3r : iR l3) (s : im_S) (hv : jI s), I2 (l3, s) → pq L ys d N2 rm_p_X3_compareDeeply (2, [(0, (2, ((83 : Nat) : Int))), (1, (2, ((l1 : Nat) : Int))), (2, (2, ((l2 : Nat) : Int))), (3, (0, l3))], [], s) (fun r : im_Re => ∃ z, r.1 = some (0, z) ∧ (jI r.2 ∧ iR z ∧ Q z r.2)) := by
    intro l1 l1n l2 l2n I2 hB2 N2
    induction N2 using Nat.strongRecOn with
    | _ N2 ih2 =>
      intro hN2 l3 l3r s hv hI
      have hW : C_compareDeeply3_2 I2 l1 l2 l3 s Q := hB2 (l3, s) hI
      unfold C_compareDeeply3_2 at hW
      refine pq_l (pc' := 3) rfl rfl rfl rfl rfl ?_
      refine pq_k (pc' := 6) (v := (0, 10000)) rfl rfl rfl (fun _ => rfl) ?_
      refine pq_c_ge (pt := 200) (pc' := 9) rfl rfl rfl (fun c203 => ?_) (fun c203 => ?_)
      · have hW := hW.1 c203
        refine pq_k (pc' := 201) (v := (0, 0)) rfl rfl rfl (fun _ => rfl) ?_
        exact pq_iret rfl ⟨_, rfl, hv, (⟨by decide, by decide⟩ : iR 0), hW⟩
      · have hW := hW.2 c203
        refine pq_l (pc' := 10) rfl rfl rfl rfl rfl ?_
        refine pq_gi (pc' := 13) rfl rfl rfl rfl rfl (fun r204 => ?_)
        refine pq_l (pc' := 14) rfl rfl rfl rfl rfl ?_
        refine pq_gi (pc' := 17) rfl rfl rfl rfl rfl (fun r205 => ?_)
        have J407 : ∀ v406 : Int, iR v406 → ((∀ v608 : Nat, v608 = (if v406 = 0 then l2 else l1) → (∀ v810 : Nat, v810 = (if v406 = 0 then l1 else l2) → (C_copy1 555 (v608 + 1) s (fun s814 => (C_shiftUp1 555 (w32 ((cgf s v810 7) - (cgf s v608 7))) s814 (fun s816 => (C_copy1 557 (v810 + 1) s816 (fun s818 => (C_add1 557 555 (-1) s818 (fun s820 => ((0 ≤ (cgf s820 557 2) → (C_bits1 557 s820 (fun z825 s824 => (((w32 ((cgf s v810 7) - (cgf s v608 7))) < z825 → (C_compareDeeply3_153 v406 s824 Q)) ∧ (¬ ((w32 ((cgf s v810 7) - (cgf s v608 7))) < z825) → (((cgf s824 v608 7) < 640 → (C_tighten3 v608 (86 + 2 * ((cgf s824 v608 0)).toNat) (w32 ((cgf s824 v608 7) + (cgf s824 v608 8))) s824 (fun s833 => (I2 ((w32 (l3 + 1)), s833))))) ∧ (¬ ((cgf s824 v608 7) < 640) → (C_compareDeeply3_153 v406 s824 Q)))))))) ∧ (¬ (0 ≤ (cgf s820 557 2)) → (∀ v1036 : Int, v1036 = (if v406 = 0 then (-1) else 1) → (Q v1036 s820))))))))))))))) → pq L ys d N2 rm_p_X3_compareDeeply (25, [(0, (2, ((83 : Nat) : Int))), (1, (2, ((l1 : Nat) : Int))), (2, (2, ((l2 : Nat) : Int))), (3, (0, l3))], [(0, v406)], s) (fun r : im_Re => ∃ z, r.1 = some (0, z) ∧ (jI r.2 ∧ iR z ∧ Q z r.2)) := by
          intro v406 v406r hW
          refine pq_s (pc' := 27) rfl rfl rfl rfl rfl ?_
          refine pq_l (pc' := 29) rfl rfl rfl rfl rfl ?_
          have J609 : ∀ v608 : Nat, nb (v608 + 1) → ((∀ v810 : Nat, v810 = (if v406 = 0 then l1 else l2) → (C_copy1 555 (v608 + 1) s (fun s814 => (C_shiftUp1 555 (w32 ((cgf s v810 7) - (cgf s v608 7))) s814 (fun s816 => (C_copy1 557 (v810 + 1) s816 (fun s818 => (C_add1 557 555 (-1) s818 (fun s820 => ((0 ≤ (cgf s820 557 2) → (C_bits1 557 s820 (fun z825 s824 => (((w32 ((cgf s v810 7) - (cgf s v608 7))) < z825 → (C_compareDeeply3_153 v406 s824 Q)) ∧ (¬ ((w32 ((cgf s v810 7) - (cgf s v608 7))) < z825) → (((cgf s824 v608 7) < 640 → (C_tighten3 v608 (86 + 2 * ((cgf s824 v608 0)).toNat) (w32 ((cgf s824 v608 7) + (cgf s824 v608 8))) s824 (fun s833 => (I2 ((w32 (l3 + 1)), s833))))) ∧ (¬ ((cgf s824 v608 7) < 640) → (C_compareDeeply3_153 v406 s824 Q)))))))) ∧ (¬ (0 ≤ (cgf s820 557 2)) → (∀ v1036 : Int, v1036 = (if v406 = 0 then (-1) else 1) → (Q v1036 s820)))))))))))))) → pq L ys d N2 rm_p_X3_compareDeeply (37, [(0, (2, ((83 : Nat) : Int))), (1, (2, ((l1 : Nat) : Int))), (2, (2, ((l2 : Nat) : Int))), (3, (0, l3)), (4, (0, v406))], [(2, ((v608 : Nat) : Int))], s) (fun r : im_Re => ∃ z, r.1 = some (0, z) ∧ (jI r.2 ∧ iR z ∧ Q z r.2)) := by
            intro v608 v608r hW
            refine pq_s (pc' := 39) rfl rfl rfl rfl rfl ?_
            refine pq_l (pc' := 41) rfl rfl rfl rfl rfl ?_
            have J811 : ∀ v810 : Nat, nb (v810 + 1) → ((C_copy1 555 (v608 + 1) s (fun s814 => (C_shiftUp1 555 (w32 ((cgf s v810 7) - (cgf s v608 7))) s814 (fun s816 => (C_copy1 557 (v810 + 1) s816 (fun s818 => (C_add1 557 555 (-1) s818 (fun s820 => ((0 ≤ (cgf s820 557 2) → (C_bits1 557 s820 (fun z825 s824 => (((w32 ((cgf s v810 7) - (cgf s v608 7))) < z825 → (C_compareDeeply3_153 v406 s824 Q)) ∧ (¬ ((w32 ((cgf s v810 7) - (cgf s v608 7))) < z825) → (((cgf s824 v608 7) < 640 → (C_tighten3 v608 (86 + 2 * ((cgf s824 v608 0)).toNat) (w32 ((cgf s824 v608 7) + (cgf s824 v608 8))) s824 (fun s833 => (I2 ((w32 (l3 + 1)), s833))))) ∧ (¬ ((cgf s824 v608 7) < 640) → (C_compareDeeply3_153 v406 s824 Q)))))))) ∧ (¬ (0 ≤ (cgf s820 557 2)) → (∀ v1036 : Int, v1036 = (if v406 = 0 then (-1) else 1) → (Q v1036 s820))))))))))))) → pq L ys d N2 rm_p_X3_compareDeeply (49, [(0, (2, ((83 : Nat) : Int))), (1, (2, ((l1 : Nat) : Int))), (2, (2, ((l2 : Nat) : Int))), (3, (0, l3)), (4, (0, v406)), (5, (2, ((v608 : Nat) : Int)))], [(2, ((v810 : Nat) : Int))], s) (fun r : im_Re => ∃ z, r.1 = some (0, z) ∧ (jI r.2 ∧ iR z ∧ Q z r.2)) := by
              intro v810 v810r hW
              refine pq_s (pc' := 51) rfl rfl rfl rfl rfl ?_
              refine pq_l (pc' := 53) rfl rfl rfl rfl rfl ?_
              refine pq_gi (pc' := 56) rfl rfl rfl rfl rfl (fun r812 => ?_)
              refine pq_l (pc' := 58) rfl rfl rfl rfl rfl ?_
              refine pq_gi (pc' := 61) rfl rfl rfl rfl rfl (fun r813 => ?_)
              refine pq_sub (pc' := 62) rfl rfl ?_
              refine pq_s (pc' := 64) rfl rfl rfl rfl rfl ?_
              refine pq_l (pc' := 65) rfl rfl rfl rfl rfl ?_
              refine pq_gr (pc' := 68) (c := 555) (v := 555) rfl rfl rfl rfl rfl rfl hv ?_
              refine pq_l (pc' := 70) rfl rfl rfl rfl rfl ?_
              refine pq_gr (pc' := 73) (c := (v608 + 1)) (v := 0) rfl rfl rfl rfl rfl rfl hv ?_
              refine pq_cVV (pc' := 76) rfl rfl rfl rfl rfl (c_copy1 L ys d s hv 555 (⟨by decide, by decide⟩ : nb 555) (v608 + 1) _ hW) (fun s814 hr => ?_)
              obtain ⟨s814v, hW⟩ := hr
              refine pq_l (pc' := 77) rfl rfl rfl rfl rfl ?_
              refine pq_gr (pc' := 80) (c := 555) (v := 555) rfl rfl rfl rfl rfl rfl s814v ?_
              refine pq_l (pc' := 82) rfl rfl rfl rfl rfl ?_
              refine pq_cVV (pc' := 85) rfl rfl rfl rfl rfl (c_shiftUp1 L ys d s814 s814v 555 (⟨by decide, by decide⟩ : nb 555) (w32 ((cgf s v810 7) - (cgf s v608 7))) (w32_r _) _ hW) (fun s816 hr => ?_)
              obtain ⟨s816v, hW⟩ := hr
              refine pq_l (pc' := 86) rfl rfl rfl rfl rfl ?_
              refine pq_gr (pc' := 89) (c := 557) (v := 557) rfl rfl rfl rfl rfl rfl s816v ?_
              refine pq_l (pc' := 91) rfl rfl rfl rfl rfl ?_
              refine pq_gr (pc' := 94) (c := (v810 + 1)) (v := 0) rfl rfl rfl rfl rfl rfl s816v ?_
              refine pq_cVV (pc' := 97) rfl rfl rfl rfl rfl (c_copy1 L ys d s816 s816v 557 (⟨by decide, by decide⟩ : nb 557) (v810 + 1) _ hW) (fun s818 hr => ?_)
              obtain ⟨s818v, hW⟩ := hr
              refine pq_l (pc' := 98) rfl rfl rfl rfl rfl ?_
              refine pq_gr (pc' := 101) (c := 557) (v := 557) rfl rfl rfl rfl rfl rfl s818v ?_
              refine pq_l (pc' := 102) rfl rfl rfl rfl rfl ?_
              refine pq_gr (pc' := 105) (c := 555) (v := 555) rfl rfl rfl rfl rfl rfl s818v ?_
              refine pq_k (pc' := 106) (v := (0, (-1))) rfl rfl rfl (fun _ => rfl) ?_
              refine pq_cVV (pc' := 109) rfl rfl rfl rfl rfl (c_add1 L ys d s818 s818v 557 (⟨by decide, by decide⟩ : nb 557) 555 (-1) (⟨by decide, by decide⟩ : iR (-1)) _ hW) (fun s820 hr => ?_)
              obtain ⟨s820v, hW⟩ := hr
              refine pq_l (pc' := 110) rfl rfl rfl rfl rfl ?_
              refine pq_gr (pc' := 113) (c := 557) (v := 557) rfl rfl rfl rfl rfl rfl s820v ?_
              refine pq_gi (pc' := 116) rfl rfl rfl rfl rfl (fun r822 => ?_)
              refine pq_z_ge (pt := 130) (pc' := 119) rfl rfl rfl (fun c823 => ?_) (fun c823 => ?_)
              · have hW := hW.1 c823
                refine pq_l (pc' := 131) rfl rfl rfl rfl rfl ?_
                refine pq_gr (pc' := 134) (c := 557) (v := 557) rfl rfl rfl rfl rfl rfl s820v ?_
                refine pq_cVI (pc' := 137) rfl rfl rfl rfl rfl (c_bits1 L ys d s820 s820v 557 _ hW) (fun z825 s824 hr => ?_)
                obtain ⟨s824v, z825r, hW⟩ := hr
                refine pq_l (pc' := 139) rfl rfl rfl rfl rfl ?_
                refine pq_c_gt (pt := 153) (pc' := 142) rfl rfl rfl (fun c826 => ?_) (fun c826 => ?_)
                · have hW := hW.1 c826
                  refine pq_w [(4, (0, v406))] ⟨rfl, trivial⟩ ?_
                  exact J153 N2 (by omega) v406 v406r s824 s824v hW
                · have hW := hW.2 c826
                  refine pq_l (pc' := 144) rfl rfl rfl rfl rfl ?_
                  refine pq_gi (pc' := 147) rfl rfl rfl rfl rfl (fun r827 => ?_)
                  refine pq_k (pc' := 150) (v := (0, 640)) rfl rfl rfl (fun _ => rfl) ?_
                  refine pq_c_lt (pt := 164) (pc' := 153) rfl rfl rfl (fun c828 => ?_) (fun c828 => ?_)
                  · have hW := hW.1 c828
                    refine pq_l (pc' := 165) rfl rfl rfl rfl rfl ?_
                    refine pq_l (pc' := 167) rfl rfl rfl rfl rfl ?_
                    refine pq_l (pc' := 168) rfl rfl rfl rfl rfl ?_
                    refine pq_gr (pc' := 171) (c := 84) (v := 84) rfl rfl rfl rfl rfl rfl s824v ?_
                    refine pq_gr (pc' := 174) (c := 85) (v := 85) rfl rfl rfl rfl rfl rfl s824v ?_
                    refine pq_l (pc' := 176) rfl rfl rfl rfl rfl ?_
                    refine pq_gi (pc' := 179) rfl rfl rfl rfl rfl (fun r829 => ?_)
                    refine pq_aa (pc' := 180) (b := 86) (k := 2) (n := 80) (m := 80) rfl rfl rfl rfl rfl s824v (fun r830a r830b => ?_)
                    refine pq_l (pc' := 182) rfl rfl rfl rfl rfl ?_
                    refine pq_gi (pc' := 185) rfl rfl rfl rfl rfl (fun r831 => ?_)
                    refine pq_l (pc' := 187) rfl rfl rfl rfl rfl ?_
                    refine pq_gi (pc' := 190) rfl rfl rfl rfl rfl (fun r832 => ?_)
                    refine pq_add (pc' := 191) rfl rfl ?_
                    refine pq_cVV (pc' := 194) rfl rfl rfl rfl rfl (c_tighten3 L ys d s824 s824v v608 v608r (86 + 2 * ((cgf s824 v608 0)).toNat) (w32 ((cgf s824 v608 7) + (cgf s824 v608 8))) (w32_r _) _ hW) (fun s833 hr => ?_)
                    obtain ⟨s833v, hW⟩ := hr
                    refine pq_inc (pc' := 197) rfl rfl rfl rfl ?_
                    refine pq_gotoT (pc' := 2) rfl rfl (fun m835 m835l => ?_)
                    refine pq_w [(0, (2, ((83 : Nat) : Int))), (1, (2, ((l1 : Nat) : Int))), (2, (2, ((l2 : Nat) : Int))), (3, (0, (w32 (l3 + 1))))] ⟨rfl, rfl, rfl, rfl, trivial⟩ ?_
                    exact ih2 m835 (by omega) (by omega) (w32 (l3 + 1)) (w32_r _) s833 s833v hW
                  · have hW := hW.2 c828
                    refine pq_w [(4, (0, v406))] ⟨rfl, trivial⟩ ?_
                    exact J153 N2 (by omega) v406 v406r s824 s824v hW
              · have hW := hW.2 c823
                refine pq_l (pc' := 121) rfl rfl rfl rfl rfl ?_
                have J1037 : ∀ v1036 : Int, iR v1036 → ((Q v1036 s820)) → pq L ys d N2 rm_p_X3_compareDeeply (129, [], [(0, v1036)], s820) (fun r : im_Re => ∃ z, r.1 = some (0, z) ∧ (jI r.2 ∧ iR z ∧ Q z r.2)) := by
                  intro v1036 v1036r hW
                  exact pq_iret rfl ⟨_, rfl, s820v, v1036r, hW⟩
                refine pq_z_eq (pt := 128) (pc' := 124) rfl rfl rfl (fun c836 => ?_) (fun c836 => ?_)
                · refine pq_k (pc' := 129) (v := (0, (-1))) rfl rfl rfl (fun _ => rfl) ?_
                  refine pq_w [] trivial ?_
                  exact J1037 (-1) (⟨by decide, by decide⟩ : iR (-1)) (hW _ (by rw [if_pos c836]))
                · refine pq_k (pc' := 125) (v := (0, 1)) rfl rfl rfl (fun _ => rfl) ?_
                  refine pq_goto (pc' := 129) rfl rfl ?_
                  refine pq_w [] trivial ?_
                  exact J1037 1 (⟨by decide, by decide⟩ : iR 1) (hW _ (by rw [if_neg (fun z => c836 z)]))
            refine pq_z_eq (pt := 48) (pc' := 44) rfl rfl rfl (fun c610 => ?_) (fun c610 => ?_)
            · refine pq_l (pc' := 49) rfl rfl rfl rfl rfl ?_
              refine pq_w [(0, (2, ((83 : Nat) : Int))), (1, (2, ((l1 : Nat) : Int))), (2, (2, ((l2 : Nat) : Int))), (3, (0, l3)), (4, (0, v406)), (5, (2, ((v608 : Nat) : Int)))] ⟨rfl, rfl, rfl, rfl, rfl, rfl, trivial⟩ ?_
              exact J811 l1 l1n (hW _ (by rw [if_pos c610]))
            · refine pq_l (pc' := 45) rfl rfl rfl rfl rfl ?_
              refine pq_goto (pc' := 49) rfl rfl ?_
              refine pq_w [(0, (2, ((83 : Nat) : Int))), (1, (2, ((l1 : Nat) : Int))), (2, (2, ((l2 : Nat) : Int))), (3, (0, l3)), (4, (0, v406)), (5, (2, ((v608 : Nat) : Int)))] ⟨rfl, rfl, rfl, rfl, rfl, rfl, trivial⟩ ?_
              exact J811 l2 l2n (hW _ (by rw [if_neg (fun z => c610 z)]))
          refine pq_z_eq (pt := 36) (pc' := 32) rfl rfl rfl (fun c408 => ?_) (fun c408 => ?_)
          · refine pq_l (pc' := 37) rfl rfl rfl rfl rfl ?_
            refine pq_w [(0, (2, ((83 : Nat) : Int))), (1, (2, ((l1 : Nat) : Int))), (2, (2, ((l2 : Nat) : Int))), (3, (0, l3)), (4, (0, v406))] ⟨rfl, rfl, rfl, rfl, rfl, trivial⟩ ?_
            exact J609 l2 l2n (hW _ (by rw [if_pos c408]))
          · refine pq_l (pc' := 33) rfl rfl rfl rfl rfl ?_
            refine pq_goto (pc' := 37) rfl rfl ?_
            refine pq_w [(0, (2, ((83 : Nat) : Int))), (1, (2, ((l1 : Nat) : Int))), (2, (2, ((l2 : Nat) : Int))), (3, (0, l3)), (4, (0, v406))] ⟨rfl, rfl, rfl, rfl, rfl, trivial⟩ ?_
            exact J609 l1 l1n (hW _ (by rw [if_neg (fun z => c408 z)]))
        refine pq_c_gt (pt := 24) (pc' := 20) rfl rfl rfl (fun c206 => ?_) (fun c206 => ?_)
        · refine pq_k (pc' := 25) (v := (0, 0)) rfl rfl rfl (fun _ => rfl) ?_
          refine pq_w [(0, (2, ((83 : Nat) : Int))), (1, (2, ((l1 : Nat) : Int))), (2, (2, ((l2 : Nat) : Int))), (3, (0, l3))] ⟨rfl, rfl, rfl, rfl, trivial⟩ ?_
          exact J407 0 (⟨by decide, by decide⟩ : iR 0) (hW _ (by rw [if_pos c206]))
        · refine pq_k (pc' := 21) (v := (0, 1)) rfl rfl rfl (fun _ => rfl) ?_
          refine pq_goto (pc' := 25) rfl rfl ?_
          refine pq_w [(0, (2, ((83 : Nat) : Int))), (1, (2, ((l1 : Nat) : Int))), (2, (2, ((l2 : Nat) : Int))), (3, (0, l3))] ⟨rfl, rfl, rfl, rfl, trivial⟩ ?_
          exact J407 1 (⟨by decide, by decide⟩ : iR 1) (hW _ (by rw [if_neg (fun z => c206 z)]))
  unfold C_compareDeeply3 at hW
  refine pq_k (pc' := 1) (v := (0, 0)) rfl rfl rfl (fun _ => rfl) ?_
  refine pq_s (pc' := 2) rfl rfl rfl rfl rfl ?_
  refine pq_w [(0, (2, ((83 : Nat) : Int))), (1, (2, ((l1 : Nat) : Int))), (2, (2, ((l2 : Nat) : Int))), (3, (0, 0))] ⟨rfl, rfl, rfl, rfl, trivial⟩ ?_
  obtain ⟨I9, hI9, hB9⟩ := hW
  exact J2 l1 l1n l2 l2n I9 hB9 N (by omega) 0 (⟨by decide, by decide⟩ : iR 0) s hv hI9
