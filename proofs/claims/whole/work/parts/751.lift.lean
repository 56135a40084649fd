/-! BASIS AND PARTER OF THE CLASS, lifted by program -/
def C_splitOff0_71 (K71 : Int × im_S → Prop) (l1 : Int) (l3 : Int) (s : im_S) (Q : Int → im_S → Prop) : Prop := ((10 ≤ l3 → (∀ s3, s3 = cpf s 84 2 (w32 ((cgf s 84 2) + 1)) → (Q (w32 ((cgf s3 84 2) - 1)) s3))) ∧ (¬ (10 ≤ l3) → (caI s 246 (w32 ((w32 (l1 * 10)) + l3)) → ((0 ≤ (w32 ((w32 ((cgf s 84 2) * 10)) + l3)) ∧ (w32 ((w32 ((cgf s 84 2) * 10)) + l3)) < gln 246) → ∀ s7, s7 = cpa s 246 (w32 ((w32 ((cgf s 84 2) * 10)) + l3)) (cga s 246 (w32 ((w32 (l1 * 10)) + l3))) → (K71 ((w32 (l3 + 1)), s7))))))
def C_splitOff0_38 (l1 : Int) (s : im_S) (Q : Int → im_S → Prop) : Prop := (Q l1 s)
def C_splitOff0 (l1 : Int) (l2 : Nat) (s : im_S) (Q : Int → im_S → Prop) : Prop := ((l1 < 0 → (C_splitOff0_38 l1 s Q)) ∧ (¬ (l1 < 0) → (((cgf s 84 2) ≤ l1 → (C_splitOff0_38 l1 s Q)) ∧ (¬ ((cgf s 84 2) ≤ l1) → ((80 ≤ (cgf s 84 2) → (C_splitOff0_38 l1 s Q)) ∧ (¬ (80 ≤ (cgf s 84 2)) → (C_divide2 (86 + 2 * (l1).toNat) l2 s (fun z16 s15 => ((¬ (z16 = 0) → (C_copy6 (86 + 2 * (l1).toNat) 257 s15 (fun s19 => (C_copy6 (86 + 2 * ((cgf s19 84 2)).toNat) l2 s19 (fun s23 => (ploop (fun (K : Int × im_S → Prop) (a : Int × im_S) => C_splitOff0_71 K l1 a.1 a.2 Q) (0, s23))))))) ∧ (z16 = 0 → (C_splitOff0_38 l1 s15 Q)))))))))))
set_option maxRecDepth 16384 in
theorem c_splitOff0 (L : Nat) (ys : Nat → Int32) (d : Nat) (s : im_S) (hv : jI s) (l1 : Int) (l1r : iR l1) (l2 : Nat) (Q : Int → im_S → Prop) (hW : C_splitOff0 l1 l2 s Q) : pcI L ys 0 d 6 [(2, ((84 : Nat) : Int)), (0, l1), (2, ((l2 : Nat) : Int))] s (fun z9 s9 => jI s9 ∧ iR z9 ∧ Q z9 s9) := by
  intro res hres
  refine pq_start (M := rm_p_X0_splitOff) (Q := (fun r : im_Re => ∃ z, r.1 = some (0, z) ∧ (jI r.2 ∧ iR z ∧ Q z r.2))) om_X0_splitOff (fun d N => ?_) res hres
  refine pq_w [(0, (2, ((84 : Nat) : Int))), (1, (0, l1)), (2, (2, ((l2 : Nat) : Int)))] ⟨rfl, rfl, rfl, trivial⟩ ?_
  have J71 : ∀ (l1 : Int) (l1r : iR l1) (I71 : Int × im_S → Prop) (hB71 : ∀ a : Int × im_S, I71 a → C_splitOff0_71 I71 l1 a.1 a.2 Q), ∀ N71 : Nat, N71 ≤ N → ∀ (l3 : Int) (l3r : iR l3) (s : im_S) (hv : jI s), I71 (l3, s) → pq L ys d N71 rm_p_X0_splitOff (71, [(0, (2, ((84 : Nat) : Int))), (1, (0, l1)), (3, (0, l3))], [], s) (fun r : im_Re => ∃ z, r.1 = some (0, z) ∧ (jI r.2 ∧ iR z ∧ Q z r.2)) := by
    intro l1 l1r I71 hB71 N71
    induction N71 using Nat.strongRecOn with
    | _ N71 ih71 =>
      intro hN71 l3 l3r s hv hI
      have hW : C_splitOff0_71 I71 l1 l3 s Q := hB71 (l3, s) hI
      unfold C_splitOff0_71 at hW
      refine pq_l (pc' := 72) rfl rfl rfl rfl rfl ?_
      refine pq_k (pc' := 74) (v := (0, 10)) rfl rfl rfl (fun _ => rfl) ?_
      refine pq_c_ge (pt := 108) (pc' := 77) rfl rfl rfl (fun c1 => ?_) (fun c1 => ?_)
      · have hW := hW.1 c1
        refine pq_l (pc' := 109) rfl rfl rfl rfl rfl ?_
        refine pq_x (pc' := 110) rfl rfl rfl (fun _ => rfl) ?_
        refine pq_gi (pc' := 113) rfl rfl rfl rfl rfl (fun r2 => ?_)
        refine pq_k (pc' := 114) (v := (0, 1)) rfl rfl rfl (fun _ => rfl) ?_
        refine pq_add (pc' := 115) rfl rfl ?_
        refine pq_pX (pc' := 118) rfl rfl rfl rfl (fun e => absurd e (by decide)) (fun e => absurd e (by decide)) hv (fun s3 s3e s3v => ?_)
        have hW := hW s3 s3e
        refine pq_l (pc' := 119) rfl rfl rfl rfl rfl ?_
        refine pq_gi (pc' := 122) rfl rfl rfl rfl rfl (fun r4 => ?_)
        refine pq_k (pc' := 123) (v := (0, 1)) rfl rfl rfl (fun _ => rfl) ?_
        refine pq_sub (pc' := 124) rfl rfl ?_
        exact pq_iret rfl ⟨_, rfl, s3v, (w32_r _), hW⟩
      · have hW := hW.2 c1
        refine pq_l (pc' := 78) rfl rfl rfl rfl rfl ?_
        refine pq_gr (pc' := 81) (c := 246) (v := 246) rfl rfl rfl rfl rfl rfl hv ?_
        refine pq_l (pc' := 82) rfl rfl rfl rfl rfl ?_
        refine pq_gi (pc' := 85) rfl rfl rfl rfl rfl (fun r5 => ?_)
        refine pq_k (pc' := 87) (v := (0, 10)) rfl rfl rfl (fun _ => rfl) ?_
        refine pq_mul (pc' := 88) rfl rfl ?_
        refine pq_l (pc' := 89) rfl rfl rfl rfl rfl ?_
        refine pq_add (pc' := 90) rfl rfl ?_
        refine pq_l (pc' := 91) rfl rfl rfl rfl rfl ?_
        refine pq_gr (pc' := 94) (c := 246) (v := 246) rfl rfl rfl rfl rfl rfl hv ?_
        refine pq_l (pc' := 95) rfl rfl rfl rfl rfl ?_
        refine pq_k (pc' := 97) (v := (0, 10)) rfl rfl rfl (fun _ => rfl) ?_
        refine pq_mul (pc' := 98) rfl rfl ?_
        refine pq_l (pc' := 99) rfl rfl rfl rfl rfl ?_
        refine pq_add (pc' := 100) rfl rfl ?_
        refine pq_ia (pc' := 101) rfl rfl (fun r6a r6b r6 => ?_)
        have hW := hW ⟨⟨r6a, r6b⟩, r6⟩
        refine pq_is (pc' := 102) rfl rfl (by decide) (by decide) hv (fun s7a s7b s7 s7e s7v => ?_)
        have hW := hW ⟨s7a, s7b⟩ s7 s7e
        refine pq_inc (pc' := 105) rfl rfl rfl rfl ?_
        refine pq_gotoT (pc' := 71) rfl rfl (fun m8 m8l => ?_)
        refine pq_w [(0, (2, ((84 : Nat) : Int))), (1, (0, l1)), (3, (0, (w32 (l3 + 1))))] ⟨rfl, rfl, rfl, trivial⟩ ?_
        exact ih71 m8 (by omega) (by omega) (w32 (l3 + 1)) (w32_r _) s7 s7v hW
  have J38 : ∀ N38 : Nat, N38 ≤ N → ∀ (l1 : Int) (l1r : iR l1) (s : im_S) (hv : jI s), C_splitOff0_38 l1 s Q → pq L ys d N38 rm_p_X0_splitOff (38, [(1, (0, l1))], [], s) (fun r : im_Re => ∃ z, r.1 = some (0, z) ∧ (jI r.2 ∧ iR z ∧ Q z r.2)) := by
    intro N38 hN38 l1 l1r s hv hW
    unfold C_splitOff0_38 at hW
    refine pq_l (pc' := 39) rfl rfl rfl rfl rfl ?_
    exact pq_iret rfl ⟨_, rfl, hv, l1r, hW⟩
  unfold C_splitOff0 at hW
  refine pq_l (pc' := 1) rfl rfl rfl rfl rfl ?_
  refine pq_z_lt (pt := 38) (pc' := 4) rfl rfl rfl (fun c9 => ?_) (fun c9 => ?_)
  · have hW := hW.1 c9
    refine pq_w [(1, (0, l1))] ⟨rfl, trivial⟩ ?_
    exact J38 N (by omega) l1 l1r s hv hW
  · have hW := hW.2 c9
    refine pq_l (pc' := 5) rfl rfl rfl rfl rfl ?_
    refine pq_l (pc' := 6) rfl rfl rfl rfl rfl ?_
    refine pq_gi (pc' := 9) rfl rfl rfl rfl rfl (fun r10 => ?_)
    refine pq_c_ge (pt := 38) (pc' := 12) rfl rfl rfl (fun c11 => ?_) (fun c11 => ?_)
    · have hW := hW.1 c11
      refine pq_w [(1, (0, l1))] ⟨rfl, trivial⟩ ?_
      exact J38 N (by omega) l1 l1r s hv hW
    · have hW := hW.2 c11
      refine pq_l (pc' := 13) rfl rfl rfl rfl rfl ?_
      refine pq_gi (pc' := 16) rfl rfl rfl rfl rfl (fun r12 => ?_)
      refine pq_k (pc' := 18) (v := (0, 80)) rfl rfl rfl (fun _ => rfl) ?_
      refine pq_c_ge (pt := 38) (pc' := 21) rfl rfl rfl (fun c13 => ?_) (fun c13 => ?_)
      · have hW := hW.1 c13
        refine pq_w [(1, (0, l1))] ⟨rfl, trivial⟩ ?_
        exact J38 N (by omega) l1 l1r s hv hW
      · have hW := hW.2 c13
        refine pq_l (pc' := 22) rfl rfl rfl rfl rfl ?_
        refine pq_gr (pc' := 25) (c := 247) (v := 247) rfl rfl rfl rfl rfl rfl hv ?_
        refine pq_l (pc' := 26) rfl rfl rfl rfl rfl ?_
        refine pq_gr (pc' := 29) (c := 85) (v := 85) rfl rfl rfl rfl rfl rfl hv ?_
        refine pq_l (pc' := 30) rfl rfl rfl rfl rfl ?_
        refine pq_aa (pc' := 31) (b := 86) (k := 2) (n := 80) (m := 80) rfl rfl rfl rfl rfl hv (fun r14a r14b => ?_)
        refine pq_l (pc' := 32) rfl rfl rfl rfl rfl ?_
        refine pq_cVI (pc' := 35) rfl rfl rfl rfl rfl (c_divide2 L ys d s hv (86 + 2 * (l1).toNat) l2 _ hW) (fun z16 s15 hr => ?_)
        obtain ⟨s15v, z16r, hW⟩ := hr
        refine pq_z_ne (pt := 40) (pc' := 38) rfl rfl rfl (fun c17 => ?_) (fun c17 => ?_)
        · have hW := hW.1 c17
          refine pq_l (pc' := 41) rfl rfl rfl rfl rfl ?_
          refine pq_gr (pc' := 44) (c := 85) (v := 85) rfl rfl rfl rfl rfl rfl s15v ?_
          refine pq_l (pc' := 45) rfl rfl rfl rfl rfl ?_
          refine pq_aa (pc' := 46) (b := 86) (k := 2) (n := 80) (m := 80) rfl rfl rfl rfl rfl s15v (fun r18a r18b => ?_)
          refine pq_l (pc' := 47) rfl rfl rfl rfl rfl ?_
          refine pq_gr (pc' := 50) (c := 247) (v := 247) rfl rfl rfl rfl rfl rfl s15v ?_
          refine pq_gr (pc' := 53) (c := 257) (v := 257) rfl rfl rfl rfl rfl rfl s15v ?_
          refine pq_cVV (pc' := 56) rfl rfl rfl rfl rfl (c_copy6 L ys d s15 s15v (86 + 2 * (l1).toNat) 257 _ hW) (fun s19 hr => ?_)
          obtain ⟨s19v, hW⟩ := hr
          refine pq_l (pc' := 57) rfl rfl rfl rfl rfl ?_
          refine pq_gr (pc' := 60) (c := 85) (v := 85) rfl rfl rfl rfl rfl rfl s19v ?_
          refine pq_l (pc' := 61) rfl rfl rfl rfl rfl ?_
          refine pq_gi (pc' := 64) rfl rfl rfl rfl rfl (fun r21 => ?_)
          refine pq_aa (pc' := 65) (b := 86) (k := 2) (n := 80) (m := 80) rfl rfl rfl rfl rfl s19v (fun r22a r22b => ?_)
          refine pq_l (pc' := 66) rfl rfl rfl rfl rfl ?_
          refine pq_cVV (pc' := 69) rfl rfl rfl rfl rfl (c_copy6 L ys d s19 s19v (86 + 2 * ((cgf s19 84 2)).toNat) l2 _ hW) (fun s23 hr => ?_)
          obtain ⟨s23v, hW⟩ := hr
          refine pq_k (pc' := 70) (v := (0, 0)) rfl rfl rfl (fun _ => rfl) ?_
          refine pq_s (pc' := 71) rfl rfl rfl rfl rfl ?_
          refine pq_w [(0, (2, ((84 : Nat) : Int))), (1, (0, l1)), (3, (0, 0))] ⟨rfl, rfl, rfl, trivial⟩ ?_
          obtain ⟨I9, hI9, hB9⟩ := hW
          exact J71 l1 l1r I9 hB9 N (by omega) 0 (⟨by decide, by decide⟩ : iR 0) s23 s23v hI9
        · have hW := hW.2 c17
          refine pq_w [(1, (0, l1))] ⟨rfl, trivial⟩ ?_
          exact J38 N (by omega) l1 l1r s15 s15v hW
def C_foldRest0_234 (s : im_S) (Q : im_S → Prop) : Prop := (Q s)
def C_foldRest0_188 (K188 : Int × im_S → Prop) (l1 : Int) (l3 : Int) (s : im_S) (Q : im_S → Prop) : Prop := ((10 ≤ l3 → (∀ s3, s3 = cpf s 84 2 (w32 ((cgf s 84 2) + 1)) → (C_foldRest0_234 s3 Q))) ∧ (¬ (10 ≤ l3) → (∀ v205 : Int, v205 = (if ¬ (l3 = l1) then 0 else 1) → ((0 ≤ (w32 ((w32 ((cgf s 84 2) * 10)) + l3)) ∧ (w32 ((w32 ((cgf s 84 2) * 10)) + l3)) < gln 246) → ∀ s207, s207 = cpa s 246 (w32 ((w32 ((cgf s 84 2) * 10)) + l3)) v205 → (K188 ((w32 (l3 + 1)), s207))))))
def C_foldRest0_151 (l1 : Int) (s : im_S) (Q : im_S → Prop) : Prop := (((cgf s 265 0) ≤ 0 → (C_foldRest0_234 s Q)) ∧ (¬ ((cgf s 265 0) ≤ 0) → ((80 ≤ (cgf s 84 2) → (C_foldRest0_234 s Q)) ∧ (¬ (80 ≤ (cgf s 84 2)) → (C_copy6 (86 + 2 * ((cgf s 84 2)).toNat) 265 s (fun s215 => (ploop (fun (K : Int × im_S → Prop) (a : Int × im_S) => C_foldRest0_188 K l1 a.1 a.2 Q) (0, s215))))))))
def C_foldRest0_145 (K7 : Int × im_S → Prop) (l1 : Int) (l2 : Int) (l3 : Int) (s : im_S) (Q : im_S → Prop) : Prop := (K7 ((w32 (l3 + 1)), s))
def C_foldRest0_99 (K7 : Int × im_S → Prop) (l1 : Int) (l2 : Int) (l3 : Int) (l4 : Int) (s : im_S) (Q : im_S → Prop) : Prop := (caI s 246 (w32 ((w32 (l4 * 10)) + l1)) → ((0 ≤ (w32 ((w32 (l4 * 10)) + l1)) ∧ (w32 ((w32 (l4 * 10)) + l1)) < gln 246) → ∀ s219, s219 = cpa s 246 (w32 ((w32 (l4 * 10)) + l1)) (w32 ((cga s 246 (w32 ((w32 (l4 * 10)) + l1))) + 1)) → (C_divide2 265 263 s219 (fun z221 s220 => (C_copy6 265 257 s220 (fun s222 => (C_foldRest0_145 K7 l1 l2 l3 s222 Q)))))))
def C_foldRest0_7 (K7 : Int × im_S → Prop) (l1 : Int) (l2 : Int) (l3 : Int) (s : im_S) (Q : im_S → Prop) : Prop := ((l2 ≤ l3 → (C_foldRest0_151 l1 s Q)) ∧ (¬ (l2 ≤ l3) → (((cgf s 265 0) ≤ 0 → (C_foldRest0_151 l1 s Q)) ∧ (¬ ((cgf s 265 0) ≤ 0) → (C_find2 (86 + 2 * (l3).toNat) 265 s (fun s228 => (((cgf s228 255 0) ≤ 0 → (C_foldRest0_145 K7 l1 l2 l3 s228 Q)) ∧ (¬ ((cgf s228 255 0) ≤ 0) → (C_copy6 263 255 s228 (fun s232 => (((cgf s232 (86 + 2 * (l3).toNat) 0) ≤ (cgf s232 263 0) → (C_foldRest0_99 K7 l1 l2 l3 l3 s232 Q)) ∧ (¬ ((cgf s232 (86 + 2 * (l3).toNat) 0) ≤ (cgf s232 263 0)) → (C_splitOff0 l3 263 s232 (fun z239 s238 => (C_foldRest0_99 K7 l1 l2 l3 z239 s238 Q)))))))))))))))
def C_foldRest0 (l1 : Int) (s : im_S) (Q : im_S → Prop) : Prop := (ploop (fun (K : Int × im_S → Prop) (a : Int × im_S) => C_foldRest0_7 K l1 (cgf s 84 2) a.1 a.2 Q) (0, s))
set_option maxRecDepth 16384 in
theorem c_foldRest0 (L : Nat) (ys : Nat → Int32) (d : Nat) (s : im_S) (hv : jI s) (l1 : Int) (l1r : iR l1) (Q : im_S → Prop) (hW : C_foldRest0 l1 s Q) : pcV L ys d 2 [(2, ((84 : Nat) : Int)), (0, l1)] s (fun s9 => jI s9 ∧ Q s9) := by
  intro res hres
  refine pq_start (M := rm_p_X0_foldRest) (Q := (fun r : im_Re => r.1 = none ∧ (jI r.2 ∧ Q r.2))) om_X0_foldRest (fun d N => ?_) res hres
  refine pq_w [(0, (2, ((84 : Nat) : Int))), (1, (0, l1))] ⟨rfl, rfl, trivial⟩ ?_
  have J234 : ∀ N234 : Nat, N234 ≤ N → ∀ (s : im_S) (hv : jI s), C_foldRest0_234 s Q → pq L ys d N234 rm_p_X0_foldRest (234, [], [], s) (fun r : im_Re => r.1 = none ∧ (jI r.2 ∧ Q r.2)) := by
    intro N234 hN234 s hv hW
    unfold C_foldRest0_234 at hW
    exact pq_vret rfl ⟨rfl, hv, hW⟩
  have J188 : ∀ (l1 : Int) (l1r : iR l1) (I188 : Int × im_S → Prop) (hB188 : ∀ a : Int × im_S, I188 a → C_foldRest0_188 I188 l1 a.1 a.2 Q), ∀ N188 : Nat, N188 ≤ N → ∀ (l3 : Int) (l3r : iR l3) (s : im_S) (hv : jI s), I188 (l3, s) → pq L ys d N188 rm_p_X0_foldRest (188, [(0, (2, ((84 : Nat) : Int))), (1, (0, l1)), (3, (0, l3))], [], s) (fun r : im_Re => r.1 = none ∧ (jI r.2 ∧ Q r.2)) := by
    intro l1 l1r I188 hB188 N188
    induction N188 using Nat.strongRecOn with
    | _ N188 ih188 =>
      intro hN188 l3 l3r s hv hI
      have hW : C_foldRest0_188 I188 l1 l3 s Q := hB188 (l3, s) hI
      unfold C_foldRest0_188 at hW
      refine pq_l (pc' := 189) rfl rfl rfl rfl rfl ?_
      refine pq_k (pc' := 191) (v := (0, 10)) rfl rfl rfl (fun _ => rfl) ?_
      refine pq_c_ge (pt := 224) (pc' := 194) rfl rfl rfl (fun c1 => ?_) (fun c1 => ?_)
      · have hW := hW.1 c1
        refine pq_l (pc' := 225) rfl rfl rfl rfl rfl ?_
        refine pq_x (pc' := 226) rfl rfl rfl (fun _ => rfl) ?_
        refine pq_gi (pc' := 229) rfl rfl rfl rfl rfl (fun r2 => ?_)
        refine pq_k (pc' := 230) (v := (0, 1)) rfl rfl rfl (fun _ => rfl) ?_
        refine pq_add (pc' := 231) rfl rfl ?_
        refine pq_pX (pc' := 234) rfl rfl rfl rfl (fun e => absurd e (by decide)) (fun e => absurd e (by decide)) hv (fun s3 s3e s3v => ?_)
        have hW := hW s3 s3e
        refine pq_w [] trivial ?_
        exact J234 N188 (by omega) s3 s3v hW
      · have hW := hW.2 c1
        refine pq_l (pc' := 195) rfl rfl rfl rfl rfl ?_
        refine pq_gr (pc' := 198) (c := 246) (v := 246) rfl rfl rfl rfl rfl rfl hv ?_
        refine pq_l (pc' := 199) rfl rfl rfl rfl rfl ?_
        refine pq_gi (pc' := 202) rfl rfl rfl rfl rfl (fun r4 => ?_)
        refine pq_k (pc' := 204) (v := (0, 10)) rfl rfl rfl (fun _ => rfl) ?_
        refine pq_mul (pc' := 205) rfl rfl ?_
        refine pq_l (pc' := 206) rfl rfl rfl rfl rfl ?_
        refine pq_add (pc' := 207) rfl rfl ?_
        refine pq_l (pc' := 208) rfl rfl rfl rfl rfl ?_
        refine pq_l (pc' := 209) rfl rfl rfl rfl rfl ?_
        have J206 : ∀ v205 : Int, iR v205 → (((0 ≤ (w32 ((w32 ((cgf s 84 2) * 10)) + l3)) ∧ (w32 ((w32 ((cgf s 84 2) * 10)) + l3)) < gln 246) → ∀ s207, s207 = cpa s 246 (w32 ((w32 ((cgf s 84 2) * 10)) + l3)) v205 → (I188 ((w32 (l3 + 1)), s207)))) → pq L ys d N188 rm_p_X0_foldRest (217, [(0, (2, ((84 : Nat) : Int))), (1, (0, l1)), (3, (0, l3))], [(0, v205), (0, (w32 ((w32 ((cgf s 84 2) * 10)) + l3))), (2, ((246 : Nat) : Int))], s) (fun r : im_Re => r.1 = none ∧ (jI r.2 ∧ Q r.2)) := by
          intro v205 v205r hW
          refine pq_is (pc' := 218) rfl rfl (by decide) (by decide) hv (fun s207a s207b s207 s207e s207v => ?_)
          have hW := hW ⟨s207a, s207b⟩ s207 s207e
          refine pq_inc (pc' := 221) rfl rfl rfl rfl ?_
          refine pq_gotoT (pc' := 188) rfl rfl (fun m208 m208l => ?_)
          refine pq_w [(0, (2, ((84 : Nat) : Int))), (1, (0, l1)), (3, (0, (w32 (l3 + 1))))] ⟨rfl, rfl, rfl, trivial⟩ ?_
          exact ih188 m208 (by omega) (by omega) (w32 (l3 + 1)) (w32_r _) s207 s207v hW
        refine pq_c_ne (pt := 216) (pc' := 212) rfl rfl rfl (fun c5 => ?_) (fun c5 => ?_)
        · refine pq_k (pc' := 217) (v := (0, 0)) rfl rfl rfl (fun _ => rfl) ?_
          refine pq_w [(0, (2, ((84 : Nat) : Int))), (1, (0, l1)), (3, (0, l3))] ⟨rfl, rfl, rfl, trivial⟩ ?_
          exact J206 0 (⟨by decide, by decide⟩ : iR 0) (hW _ (by rw [if_pos c5]))
        · refine pq_k (pc' := 213) (v := (0, 1)) rfl rfl rfl (fun _ => rfl) ?_
          refine pq_goto (pc' := 217) rfl rfl ?_
          refine pq_w [(0, (2, ((84 : Nat) : Int))), (1, (0, l1)), (3, (0, l3))] ⟨rfl, rfl, rfl, trivial⟩ ?_
          exact J206 1 (⟨by decide, by decide⟩ : iR 1) (hW _ (by rw [if_neg (by omega)]))
  have J151 : ∀ N151 : Nat, N151 ≤ N → ∀ (l1 : Int) (l1r : iR l1) (s : im_S) (hv : jI s), C_foldRest0_151 l1 s Q → pq L ys d N151 rm_p_X0_foldRest (151, [(0, (2, ((84 : Nat) : Int))), (1, (0, l1))], [], s) (fun r : im_Re => r.1 = none ∧ (jI r.2 ∧ Q r.2)) := by
    intro N151 hN151 l1 l1r s hv hW
    unfold C_foldRest0_151 at hW
    refine pq_l (pc' := 152) rfl rfl rfl rfl rfl ?_
    refine pq_gr (pc' := 155) (c := 265) (v := 265) rfl rfl rfl rfl rfl rfl hv ?_
    refine pq_gi (pc' := 158) rfl rfl rfl rfl rfl (fun r209 => ?_)
    refine pq_z_le (pt := 234) (pc' := 161) rfl rfl rfl (fun c210 => ?_) (fun c210 => ?_)
    · have hW := hW.1 c210
      refine pq_w [] trivial ?_
      exact J234 N151 (by omega) s hv hW
    · have hW := hW.2 c210
      refine pq_l (pc' := 162) rfl rfl rfl rfl rfl ?_
      refine pq_gi (pc' := 165) rfl rfl rfl rfl rfl (fun r211 => ?_)
      refine pq_k (pc' := 167) (v := (0, 80)) rfl rfl rfl (fun _ => rfl) ?_
      refine pq_c_ge (pt := 234) (pc' := 170) rfl rfl rfl (fun c212 => ?_) (fun c212 => ?_)
      · have hW := hW.1 c212
        refine pq_w [] trivial ?_
        exact J234 N151 (by omega) s hv hW
      · have hW := hW.2 c212
        refine pq_l (pc' := 171) rfl rfl rfl rfl rfl ?_
        refine pq_gr (pc' := 174) (c := 85) (v := 85) rfl rfl rfl rfl rfl rfl hv ?_
        refine pq_l (pc' := 175) rfl rfl rfl rfl rfl ?_
        refine pq_gi (pc' := 178) rfl rfl rfl rfl rfl (fun r213 => ?_)
        refine pq_aa (pc' := 179) (b := 86) (k := 2) (n := 80) (m := 80) rfl rfl rfl rfl rfl hv (fun r214a r214b => ?_)
        refine pq_l (pc' := 180) rfl rfl rfl rfl rfl ?_
        refine pq_gr (pc' := 183) (c := 265) (v := 265) rfl rfl rfl rfl rfl rfl hv ?_
        refine pq_cVV (pc' := 186) rfl rfl rfl rfl rfl (c_copy6 L ys d s hv (86 + 2 * ((cgf s 84 2)).toNat) 265 _ hW) (fun s215 hr => ?_)
        obtain ⟨s215v, hW⟩ := hr
        refine pq_k (pc' := 187) (v := (0, 0)) rfl rfl rfl (fun _ => rfl) ?_
        refine pq_s (pc' := 188) rfl rfl rfl rfl rfl ?_
        refine pq_w [(0, (2, ((84 : Nat) : Int))), (1, (0, l1)), (3, (0, 0))] ⟨rfl, rfl, rfl, trivial⟩ ?_
        obtain ⟨I9, hI9, hB9⟩ := hW
        exact J188 l1 l1r I9 hB9 N151 (by omega) 0 (⟨by decide, by decide⟩ : iR 0) s215 s215v hI9
  have J7 : ∀ (l1 : Int) (l1r : iR l1) (l2 : Int) (l2r : iR l2) (I7 : Int × im_S → Prop) (hB7 : ∀ a : Int × im_S, I7 a → C_foldRest0_7 I7 l1 l2 a.1 a.2 Q), ∀ N7 : Nat, N7 ≤ N → ∀ (l3 : Int) (l3r : iR l3) (s : im_S) (hv : jI s), I7 (l3, s) → pq L ys d N7 rm_p_X0_foldRest (7, [(0, (2, ((84 : Nat) : Int))), (1, (0, l1)), (2, (0, l2)), (3, (0, l3))], [], s) (fun r : im_Re => r.1 = none ∧ (jI r.2 ∧ Q r.2)) := by
    intro l1 l1r l2 l2r I7 hB7 N7
    induction N7 using Nat.strongRecOn with
    | _ N7 ih7 =>
      intro hN7 l3 l3r s hv hI
      have hW : C_foldRest0_7 I7 l1 l2 l3 s Q := hB7 (l3, s) hI
      have J145 : ∀ N145 : Nat, N145 ≤ N7 → ∀ (l3 : Int) (l3r : iR l3) (s : im_S) (hv : jI s), C_foldRest0_145 I7 l1 l2 l3 s Q → pq L ys d N145 rm_p_X0_foldRest (145, [(0, (2, ((84 : Nat) : Int))), (1, (0, l1)), (2, (0, l2)), (3, (0, l3))], [], s) (fun r : im_Re => r.1 = none ∧ (jI r.2 ∧ Q r.2)) := by
        intro N145 hN145 l3 l3r s hv hW
        unfold C_foldRest0_145 at hW
        refine pq_inc (pc' := 148) rfl rfl rfl rfl ?_
        refine pq_gotoT (pc' := 7) rfl rfl (fun m217 m217l => ?_)
        refine pq_w [(0, (2, ((84 : Nat) : Int))), (1, (0, l1)), (2, (0, l2)), (3, (0, (w32 (l3 + 1))))] ⟨rfl, rfl, rfl, rfl, trivial⟩ ?_
        exact ih7 m217 (by omega) (by omega) (w32 (l3 + 1)) (w32_r _) s hv hW
      have J99 : ∀ N99 : Nat, N99 ≤ N7 → ∀ (l3 : Int) (l3r : iR l3) (l4 : Int) (l4r : iR l4) (s : im_S) (hv : jI s), C_foldRest0_99 I7 l1 l2 l3 l4 s Q → pq L ys d N99 rm_p_X0_foldRest (99, [(0, (2, ((84 : Nat) : Int))), (1, (0, l1)), (2, (0, l2)), (3, (0, l3)), (4, (0, l4))], [], s) (fun r : im_Re => r.1 = none ∧ (jI r.2 ∧ Q r.2)) := by
        intro N99 hN99 l3 l3r l4 l4r s hv hW
        unfold C_foldRest0_99 at hW
        refine pq_l (pc' := 100) rfl rfl rfl rfl rfl ?_
        refine pq_gr (pc' := 103) (c := 246) (v := 246) rfl rfl rfl rfl rfl rfl hv ?_
        refine pq_l (pc' := 105) rfl rfl rfl rfl rfl ?_
        refine pq_k (pc' := 107) (v := (0, 10)) rfl rfl rfl (fun _ => rfl) ?_
        refine pq_mul (pc' := 108) rfl rfl ?_
        refine pq_l (pc' := 109) rfl rfl rfl rfl rfl ?_
        refine pq_add (pc' := 110) rfl rfl ?_
        refine pq_x (pc' := 111) rfl rfl rfl (fun _ => rfl) ?_
        refine pq_ia (pc' := 112) rfl rfl (fun r218a r218b r218 => ?_)
        have hW := hW ⟨⟨r218a, r218b⟩, r218⟩
        refine pq_k (pc' := 113) (v := (0, 1)) rfl rfl rfl (fun _ => rfl) ?_
        refine pq_add (pc' := 114) rfl rfl ?_
        refine pq_is (pc' := 115) rfl rfl (by decide) (by decide) hv (fun s219a s219b s219 s219e s219v => ?_)
        have hW := hW ⟨s219a, s219b⟩ s219 s219e
        refine pq_l (pc' := 116) rfl rfl rfl rfl rfl ?_
        refine pq_gr (pc' := 119) (c := 247) (v := 247) rfl rfl rfl rfl rfl rfl s219v ?_
        refine pq_l (pc' := 120) rfl rfl rfl rfl rfl ?_
        refine pq_gr (pc' := 123) (c := 265) (v := 265) rfl rfl rfl rfl rfl rfl s219v ?_
        refine pq_l (pc' := 124) rfl rfl rfl rfl rfl ?_
        refine pq_gr (pc' := 127) (c := 263) (v := 263) rfl rfl rfl rfl rfl rfl s219v ?_
        refine pq_cVI (pc' := 130) rfl rfl rfl rfl rfl (c_divide2 L ys d s219 s219v 265 263 _ hW) (fun z221 s220 hr => ?_)
        obtain ⟨s220v, z221r, hW⟩ := hr
        refine pq_x (pc' := 131) rfl rfl rfl (fun _ => rfl) ?_
        refine pq_l (pc' := 132) rfl rfl rfl rfl rfl ?_
        refine pq_gr (pc' := 135) (c := 265) (v := 265) rfl rfl rfl rfl rfl rfl s220v ?_
        refine pq_l (pc' := 136) rfl rfl rfl rfl rfl ?_
        refine pq_gr (pc' := 139) (c := 247) (v := 247) rfl rfl rfl rfl rfl rfl s220v ?_
        refine pq_gr (pc' := 142) (c := 257) (v := 257) rfl rfl rfl rfl rfl rfl s220v ?_
        refine pq_cVV (pc' := 145) rfl rfl rfl rfl rfl (c_copy6 L ys d s220 s220v 265 257 _ hW) (fun s222 hr => ?_)
        obtain ⟨s222v, hW⟩ := hr
        refine pq_w [(0, (2, ((84 : Nat) : Int))), (1, (0, l1)), (2, (0, l2)), (3, (0, l3))] ⟨rfl, rfl, rfl, rfl, trivial⟩ ?_
        exact J145 N99 (by omega) l3 l3r s222 s222v hW
      unfold C_foldRest0_7 at hW
      refine pq_l (pc' := 8) rfl rfl rfl rfl rfl ?_
      refine pq_l (pc' := 9) rfl rfl rfl rfl rfl ?_
      refine pq_c_ge (pt := 151) (pc' := 12) rfl rfl rfl (fun c224 => ?_) (fun c224 => ?_)
      · have hW := hW.1 c224
        refine pq_w [(0, (2, ((84 : Nat) : Int))), (1, (0, l1))] ⟨rfl, rfl, trivial⟩ ?_
        exact J151 N7 (by omega) l1 l1r s hv hW
      · have hW := hW.2 c224
        refine pq_l (pc' := 13) rfl rfl rfl rfl rfl ?_
        refine pq_gr (pc' := 16) (c := 265) (v := 265) rfl rfl rfl rfl rfl rfl hv ?_
        refine pq_gi (pc' := 19) rfl rfl rfl rfl rfl (fun r225 => ?_)
        refine pq_z_le (pt := 151) (pc' := 22) rfl rfl rfl (fun c226 => ?_) (fun c226 => ?_)
        · have hW := hW.1 c226
          refine pq_w [(0, (2, ((84 : Nat) : Int))), (1, (0, l1))] ⟨rfl, rfl, trivial⟩ ?_
          exact J151 N7 (by omega) l1 l1r s hv hW
        · have hW := hW.2 c226
          refine pq_l (pc' := 23) rfl rfl rfl rfl rfl ?_
          refine pq_gr (pc' := 26) (c := 247) (v := 247) rfl rfl rfl rfl rfl rfl hv ?_
          refine pq_l (pc' := 27) rfl rfl rfl rfl rfl ?_
          refine pq_gr (pc' := 30) (c := 85) (v := 85) rfl rfl rfl rfl rfl rfl hv ?_
          refine pq_l (pc' := 31) rfl rfl rfl rfl rfl ?_
          refine pq_aa (pc' := 32) (b := 86) (k := 2) (n := 80) (m := 80) rfl rfl rfl rfl rfl hv (fun r227a r227b => ?_)
          refine pq_l (pc' := 33) rfl rfl rfl rfl rfl ?_
          refine pq_gr (pc' := 36) (c := 265) (v := 265) rfl rfl rfl rfl rfl rfl hv ?_
          refine pq_cVV (pc' := 39) rfl rfl rfl rfl rfl (c_find2 L ys d s hv (86 + 2 * (l3).toNat) 265 _ hW) (fun s228 hr => ?_)
          obtain ⟨s228v, hW⟩ := hr
          refine pq_l (pc' := 40) rfl rfl rfl rfl rfl ?_
          refine pq_gr (pc' := 43) (c := 247) (v := 247) rfl rfl rfl rfl rfl rfl s228v ?_
          refine pq_gr (pc' := 46) (c := 255) (v := 255) rfl rfl rfl rfl rfl rfl s228v ?_
          refine pq_gi (pc' := 49) rfl rfl rfl rfl rfl (fun r230 => ?_)
          refine pq_z_le (pt := 145) (pc' := 52) rfl rfl rfl (fun c231 => ?_) (fun c231 => ?_)
          · have hW := hW.1 c231
            refine pq_w [(0, (2, ((84 : Nat) : Int))), (1, (0, l1)), (2, (0, l2)), (3, (0, l3))] ⟨rfl, rfl, rfl, rfl, trivial⟩ ?_
            exact J145 N7 (by omega) l3 l3r s228 s228v hW
          · have hW := hW.2 c231
            refine pq_l (pc' := 53) rfl rfl rfl rfl rfl ?_
            refine pq_gr (pc' := 56) (c := 263) (v := 263) rfl rfl rfl rfl rfl rfl s228v ?_
            refine pq_l (pc' := 57) rfl rfl rfl rfl rfl ?_
            refine pq_gr (pc' := 60) (c := 247) (v := 247) rfl rfl rfl rfl rfl rfl s228v ?_
            refine pq_gr (pc' := 63) (c := 255) (v := 255) rfl rfl rfl rfl rfl rfl s228v ?_
            refine pq_cVV (pc' := 66) rfl rfl rfl rfl rfl (c_copy6 L ys d s228 s228v 263 255 _ hW) (fun s232 hr => ?_)
            obtain ⟨s232v, hW⟩ := hr
            refine pq_l (pc' := 67) rfl rfl rfl rfl rfl ?_
            refine pq_s (pc' := 69) rfl rfl rfl rfl rfl ?_
            refine pq_l (pc' := 70) rfl rfl rfl rfl rfl ?_
            refine pq_gr (pc' := 73) (c := 263) (v := 263) rfl rfl rfl rfl rfl rfl s232v ?_
            refine pq_gi (pc' := 76) rfl rfl rfl rfl rfl (fun r234 => ?_)
            refine pq_l (pc' := 77) rfl rfl rfl rfl rfl ?_
            refine pq_gr (pc' := 80) (c := 85) (v := 85) rfl rfl rfl rfl rfl rfl s232v ?_
            refine pq_l (pc' := 81) rfl rfl rfl rfl rfl ?_
            refine pq_aa (pc' := 82) (b := 86) (k := 2) (n := 80) (m := 80) rfl rfl rfl rfl rfl s232v (fun r235a r235b => ?_)
            refine pq_gi (pc' := 85) rfl rfl rfl rfl rfl (fun r236 => ?_)
            refine pq_c_ge (pt := 99) (pc' := 88) rfl rfl rfl (fun c237 => ?_) (fun c237 => ?_)
            · have hW := hW.1 c237
              refine pq_w [(0, (2, ((84 : Nat) : Int))), (1, (0, l1)), (2, (0, l2)), (3, (0, l3)), (4, (0, l3))] ⟨rfl, rfl, rfl, rfl, rfl, trivial⟩ ?_
              exact J99 N7 (by omega) l3 l3r l3 l3r s232 s232v hW
            · have hW := hW.2 c237
              refine pq_l (pc' := 89) rfl rfl rfl rfl rfl ?_
              refine pq_l (pc' := 90) rfl rfl rfl rfl rfl ?_
              refine pq_l (pc' := 91) rfl rfl rfl rfl rfl ?_
              refine pq_gr (pc' := 94) (c := 263) (v := 263) rfl rfl rfl rfl rfl rfl s232v ?_
              refine pq_cVI (pc' := 97) rfl rfl rfl rfl rfl (c_splitOff0 L ys d s232 s232v l3 l3r 263 _ hW) (fun z239 s238 hr => ?_)
              obtain ⟨s238v, z239r, hW⟩ := hr
              refine pq_s (pc' := 99) rfl rfl rfl rfl rfl ?_
              refine pq_w [(0, (2, ((84 : Nat) : Int))), (1, (0, l1)), (2, (0, l2)), (3, (0, l3)), (4, (0, z239))] ⟨rfl, rfl, rfl, rfl, rfl, trivial⟩ ?_
              exact J99 N7 (by omega) l3 l3r z239 z239r s238 s238v hW
  unfold C_foldRest0 at hW
  refine pq_l (pc' := 1) rfl rfl rfl rfl rfl ?_
  refine pq_gi (pc' := 4) rfl rfl rfl rfl rfl (fun r240 => ?_)
  refine pq_s (pc' := 5) rfl rfl rfl rfl rfl ?_
  refine pq_k (pc' := 6) (v := (0, 0)) rfl rfl rfl (fun _ => rfl) ?_
  refine pq_s (pc' := 7) rfl rfl rfl rfl rfl ?_
  refine pq_w [(0, (2, ((84 : Nat) : Int))), (1, (0, l1)), (2, (0, (cgf s 84 2))), (3, (0, 0))] ⟨rfl, rfl, rfl, rfl, trivial⟩ ?_
  obtain ⟨I9, hI9, hB9⟩ := hW
  exact J7 l1 l1r (cgf s 84 2) r240 I9 hB9 N (by omega) 0 (⟨by decide, by decide⟩ : iR 0) s hv hI9
def C_addAtom0_125 (s : im_S) (Q : im_S → Prop) : Prop := (Q s)
def C_addAtom0_17 (K17 : Int × im_S → Prop) (l2 : Int) (l3 : Int) (s : im_S) (Q : im_S → Prop) : Prop := ((8 ≤ l3 → (C_addAtom0_125 s Q)) ∧ (¬ (8 ≤ l3) → (((cgf s 259 0) ≤ 0 → (C_addAtom0_125 s Q)) ∧ (¬ ((cgf s 259 0) ≤ 0) → (C_setSlopeOf6 261 259 s (fun s4 => (C_find2 259 261 s4 (fun s6 => (C_copy6 261 255 s6 (fun s8 => (C_divide2 259 261 s8 (fun z11 s10 => (C_copy6 265 257 s10 (fun s12 => (C_copy6 259 261 s12 (fun s14 => (C_foldRest0 l2 s14 (fun s16 => (K17 ((w32 (l3 + 1)), s16))))))))))))))))))))
def C_addAtom0 (l1 : Nat) (l2 : Int) (s : im_S) (Q : im_S → Prop) : Prop := (C_copy6 259 l1 s (fun s19 => (C_makePrimitive6 259 s19 (fun s21 => (ploop (fun (K : Int × im_S → Prop) (a : Int × im_S) => C_addAtom0_17 K l2 a.1 a.2 Q) (0, s21))))))
set_option maxRecDepth 16384 in
theorem c_addAtom0 (L : Nat) (ys : Nat → Int32) (d : Nat) (s : im_S) (hv : jI s) (l1 : Nat) (l2 : Int) (l2r : iR l2) (Q : im_S → Prop) (hW : C_addAtom0 l1 l2 s Q) : pcV L ys d 0 [(2, ((84 : Nat) : Int)), (2, ((l1 : Nat) : Int)), (0, l2)] s (fun s9 => jI s9 ∧ Q s9) := by
  intro res hres
  refine pq_start (M := rm_p_X0_addAtom) (Q := (fun r : im_Re => r.1 = none ∧ (jI r.2 ∧ Q r.2))) om_X0_addAtom (fun d N => ?_) res hres
  refine pq_w [(0, (2, ((84 : Nat) : Int))), (1, (2, ((l1 : Nat) : Int))), (2, (0, l2))] ⟨rfl, rfl, rfl, trivial⟩ ?_
  have J125 : ∀ N125 : Nat, N125 ≤ N → ∀ (s : im_S) (hv : jI s), C_addAtom0_125 s Q → pq L ys d N125 rm_p_X0_addAtom (125, [], [], s) (fun r : im_Re => r.1 = none ∧ (jI r.2 ∧ Q r.2)) := by
    intro N125 hN125 s hv hW
    unfold C_addAtom0_125 at hW
    exact pq_vret rfl ⟨rfl, hv, hW⟩
  have J17 : ∀ (l2 : Int) (l2r : iR l2) (I17 : Int × im_S → Prop) (hB17 : ∀ a : Int × im_S, I17 a → C_addAtom0_17 I17 l2 a.1 a.2 Q), ∀ N17 : Nat, N17 ≤ N → ∀ (l3 : Int) (l3r : iR l3) (s : im_S) (hv : jI s), I17 (l3, s) → pq L ys d N17 rm_p_X0_addAtom (17, [(0, (2, ((84 : Nat) : Int))), (2, (0, l2)), (3, (0, l3))], [], s) (fun r : im_Re => r.1 = none ∧ (jI r.2 ∧ Q r.2)) := by
    intro l2 l2r I17 hB17 N17
    induction N17 using Nat.strongRecOn with
    | _ N17 ih17 =>
      intro hN17 l3 l3r s hv hI
      have hW : C_addAtom0_17 I17 l2 l3 s Q := hB17 (l3, s) hI
      unfold C_addAtom0_17 at hW
      refine pq_l (pc' := 18) rfl rfl rfl rfl rfl ?_
      refine pq_k (pc' := 20) (v := (0, 8)) rfl rfl rfl (fun _ => rfl) ?_
      refine pq_c_ge (pt := 125) (pc' := 23) rfl rfl rfl (fun c1 => ?_) (fun c1 => ?_)
      · have hW := hW.1 c1
        refine pq_w [] trivial ?_
        exact J125 N17 (by omega) s hv hW
      · have hW := hW.2 c1
        refine pq_l (pc' := 24) rfl rfl rfl rfl rfl ?_
        refine pq_gr (pc' := 27) (c := 259) (v := 259) rfl rfl rfl rfl rfl rfl hv ?_
        refine pq_gi (pc' := 30) rfl rfl rfl rfl rfl (fun r2 => ?_)
        refine pq_z_le (pt := 125) (pc' := 33) rfl rfl rfl (fun c3 => ?_) (fun c3 => ?_)
        · have hW := hW.1 c3
          refine pq_w [] trivial ?_
          exact J125 N17 (by omega) s hv hW
        · have hW := hW.2 c3
          refine pq_l (pc' := 34) rfl rfl rfl rfl rfl ?_
          refine pq_gr (pc' := 37) (c := 261) (v := 261) rfl rfl rfl rfl rfl rfl hv ?_
          refine pq_l (pc' := 38) rfl rfl rfl rfl rfl ?_
          refine pq_gr (pc' := 41) (c := 259) (v := 259) rfl rfl rfl rfl rfl rfl hv ?_
          refine pq_cVV (pc' := 44) rfl rfl rfl rfl rfl (c_setSlopeOf6 L ys d s hv 261 259 _ hW) (fun s4 hr => ?_)
          obtain ⟨s4v, hW⟩ := hr
          refine pq_l (pc' := 45) rfl rfl rfl rfl rfl ?_
          refine pq_gr (pc' := 48) (c := 247) (v := 247) rfl rfl rfl rfl rfl rfl s4v ?_
          refine pq_l (pc' := 49) rfl rfl rfl rfl rfl ?_
          refine pq_gr (pc' := 52) (c := 259) (v := 259) rfl rfl rfl rfl rfl rfl s4v ?_
          refine pq_l (pc' := 53) rfl rfl rfl rfl rfl ?_
          refine pq_gr (pc' := 56) (c := 261) (v := 261) rfl rfl rfl rfl rfl rfl s4v ?_
          refine pq_cVV (pc' := 59) rfl rfl rfl rfl rfl (c_find2 L ys d s4 s4v 259 261 _ hW) (fun s6 hr => ?_)
          obtain ⟨s6v, hW⟩ := hr
          refine pq_l (pc' := 60) rfl rfl rfl rfl rfl ?_
          refine pq_gr (pc' := 63) (c := 261) (v := 261) rfl rfl rfl rfl rfl rfl s6v ?_
          refine pq_l (pc' := 64) rfl rfl rfl rfl rfl ?_
          refine pq_gr (pc' := 67) (c := 247) (v := 247) rfl rfl rfl rfl rfl rfl s6v ?_
          refine pq_gr (pc' := 70) (c := 255) (v := 255) rfl rfl rfl rfl rfl rfl s6v ?_
          refine pq_cVV (pc' := 73) rfl rfl rfl rfl rfl (c_copy6 L ys d s6 s6v 261 255 _ hW) (fun s8 hr => ?_)
          obtain ⟨s8v, hW⟩ := hr
          refine pq_l (pc' := 74) rfl rfl rfl rfl rfl ?_
          refine pq_gr (pc' := 77) (c := 247) (v := 247) rfl rfl rfl rfl rfl rfl s8v ?_
          refine pq_l (pc' := 78) rfl rfl rfl rfl rfl ?_
          refine pq_gr (pc' := 81) (c := 259) (v := 259) rfl rfl rfl rfl rfl rfl s8v ?_
          refine pq_l (pc' := 82) rfl rfl rfl rfl rfl ?_
          refine pq_gr (pc' := 85) (c := 261) (v := 261) rfl rfl rfl rfl rfl rfl s8v ?_
          refine pq_cVI (pc' := 88) rfl rfl rfl rfl rfl (c_divide2 L ys d s8 s8v 259 261 _ hW) (fun z11 s10 hr => ?_)
          obtain ⟨s10v, z11r, hW⟩ := hr
          refine pq_x (pc' := 89) rfl rfl rfl (fun _ => rfl) ?_
          refine pq_l (pc' := 90) rfl rfl rfl rfl rfl ?_
          refine pq_gr (pc' := 93) (c := 265) (v := 265) rfl rfl rfl rfl rfl rfl s10v ?_
          refine pq_l (pc' := 94) rfl rfl rfl rfl rfl ?_
          refine pq_gr (pc' := 97) (c := 247) (v := 247) rfl rfl rfl rfl rfl rfl s10v ?_
          refine pq_gr (pc' := 100) (c := 257) (v := 257) rfl rfl rfl rfl rfl rfl s10v ?_
          refine pq_cVV (pc' := 103) rfl rfl rfl rfl rfl (c_copy6 L ys d s10 s10v 265 257 _ hW) (fun s12 hr => ?_)
          obtain ⟨s12v, hW⟩ := hr
          refine pq_l (pc' := 104) rfl rfl rfl rfl rfl ?_
          refine pq_gr (pc' := 107) (c := 259) (v := 259) rfl rfl rfl rfl rfl rfl s12v ?_
          refine pq_l (pc' := 108) rfl rfl rfl rfl rfl ?_
          refine pq_gr (pc' := 111) (c := 261) (v := 261) rfl rfl rfl rfl rfl rfl s12v ?_
          refine pq_cVV (pc' := 114) rfl rfl rfl rfl rfl (c_copy6 L ys d s12 s12v 259 261 _ hW) (fun s14 hr => ?_)
          obtain ⟨s14v, hW⟩ := hr
          refine pq_l (pc' := 115) rfl rfl rfl rfl rfl ?_
          refine pq_l (pc' := 116) rfl rfl rfl rfl rfl ?_
          refine pq_cVV (pc' := 119) rfl rfl rfl rfl rfl (c_foldRest0 L ys d s14 s14v l2 l2r _ hW) (fun s16 hr => ?_)
          obtain ⟨s16v, hW⟩ := hr
          refine pq_inc (pc' := 122) rfl rfl rfl rfl ?_
          refine pq_gotoT (pc' := 17) rfl rfl (fun m18 m18l => ?_)
          refine pq_w [(0, (2, ((84 : Nat) : Int))), (2, (0, l2)), (3, (0, (w32 (l3 + 1))))] ⟨rfl, rfl, rfl, trivial⟩ ?_
          exact ih17 m18 (by omega) (by omega) (w32 (l3 + 1)) (w32_r _) s16 s16v hW
  unfold C_addAtom0 at hW
  refine pq_l (pc' := 1) rfl rfl rfl rfl rfl ?_
  refine pq_gr (pc' := 4) (c := 259) (v := 259) rfl rfl rfl rfl rfl rfl hv ?_
  refine pq_l (pc' := 5) rfl rfl rfl rfl rfl ?_
  refine pq_cVV (pc' := 8) rfl rfl rfl rfl rfl (c_copy6 L ys d s hv 259 l1 _ hW) (fun s19 hr => ?_)
  obtain ⟨s19v, hW⟩ := hr
  refine pq_l (pc' := 9) rfl rfl rfl rfl rfl ?_
  refine pq_gr (pc' := 12) (c := 259) (v := 259) rfl rfl rfl rfl rfl rfl s19v ?_
  refine pq_cVV (pc' := 15) rfl rfl rfl rfl rfl (c_makePrimitive6 L ys d s19 s19v 259 _ hW) (fun s21 hr => ?_)
  obtain ⟨s21v, hW⟩ := hr
  refine pq_k (pc' := 16) (v := (0, 0)) rfl rfl rfl (fun _ => rfl) ?_
  refine pq_s (pc' := 17) rfl rfl rfl rfl rfl ?_
  refine pq_w [(0, (2, ((84 : Nat) : Int))), (2, (0, l2)), (3, (0, 0))] ⟨rfl, rfl, rfl, trivial⟩ ?_
  obtain ⟨I9, hI9, hB9⟩ := hW
  exact J17 l2 l2r I9 hB9 N (by omega) 0 (⟨by decide, by decide⟩ : iR 0) s21 s21v hI9
def C_start8 (l0 : Nat) (l1 : Nat) (l2 : Int) (l3 : Int) (s : im_S) (Q : im_S → Prop) : Prop := (C_copy1 (l0 + 1) l1 s (fun s1 => (∀ s3, s3 = cpf s1 l0 7 l2 → (∀ s4, s4 = cpf s3 l0 1 l3 → (∀ s5, s5 = cpf s4 l0 8 1 → (Q s5))))))
set_option maxRecDepth 16384 in
theorem c_start8 (L : Nat) (ys : Nat → Int32) (d : Nat) (s : im_S) (hv : jI s) (l0 : Nat) (l0n : nb (l0 + 1)) (l1 : Nat) (l2 : Int) (l2r : iR l2) (l3 : Int) (l3r : iR l3) (Q : im_S → Prop) (hW : C_start8 l0 l1 l2 l3 s Q) : pcV L ys d 205 [(2, ((l0 : Nat) : Int)), (2, ((l1 : Nat) : Int)), (0, l2), (0, l3)] s (fun s9 => jI s9 ∧ Q s9) := by
  intro res hres
  refine pq_start (M := rm_p_X8_start) (Q := (fun r : im_Re => r.1 = none ∧ (jI r.2 ∧ Q r.2))) om_X8_start (fun d N => ?_) res hres
  refine pq_w [(0, (2, ((l0 : Nat) : Int))), (1, (2, ((l1 : Nat) : Int))), (2, (0, l2)), (3, (0, l3))] ⟨rfl, rfl, rfl, rfl, trivial⟩ ?_
  unfold C_start8 at hW
  refine pq_l (pc' := 1) rfl rfl rfl rfl rfl ?_
  refine pq_gr (pc' := 4) (c := (l0 + 1)) (v := 0) rfl rfl rfl rfl rfl rfl hv ?_
  refine pq_l (pc' := 5) rfl rfl rfl rfl rfl ?_
  refine pq_cVV (pc' := 8) rfl rfl rfl rfl rfl (c_copy1 L ys d s hv (l0 + 1) l0n l1 _ hW) (fun s1 hr => ?_)
  obtain ⟨s1v, hW⟩ := hr
  refine pq_l (pc' := 9) rfl rfl rfl rfl rfl ?_
  refine pq_l (pc' := 10) rfl rfl rfl rfl rfl ?_
  refine pq_pX (pc' := 13) rfl rfl rfl rfl (fun e => absurd e (by decide)) (fun e => absurd e (by decide)) s1v (fun s3 s3e s3v => ?_)
  have hW := hW s3 s3e
  refine pq_l (pc' := 14) rfl rfl rfl rfl rfl ?_
  refine pq_l (pc' := 15) rfl rfl rfl rfl rfl ?_
  refine pq_pX (pc' := 18) rfl rfl rfl rfl (fun e => absurd e (by decide)) (fun e => absurd e (by decide)) s3v (fun s4 s4e s4v => ?_)
  have hW := hW s4 s4e
  refine pq_l (pc' := 19) rfl rfl rfl rfl rfl ?_
  refine pq_k (pc' := 20) (v := (0, 1)) rfl rfl rfl (fun _ => rfl) ?_
  refine pq_pX (pc' := 23) rfl rfl rfl rfl (fun e => absurd e (by decide)) (fun e => absurd e (by decide)) s4v (fun s5 s5e s5v => ?_)
  have hW := hW s5 s5e
  exact pq_vret rfl ⟨rfl, s5v, hW⟩
def C_J9_floorDiv_f86c9_27 (l4 : Int) (s : im_S) (Q : Int → im_S → Prop) : Prop := (Q l4 s)
def C_J9_floorDiv_f86c9 (l0 : Int) (l2 : Int) (s : im_S) (Q : Int → im_S → Prop) : Prop := ((0 ≤ (xorJ l0 l2) → (C_J9_floorDiv_f86c9_27 (divJ l0 l2) s Q)) ∧ (¬ (0 ≤ (xorJ l0 l2)) → (((w64 ((divJ l0 l2) * l2)) = l0 → (C_J9_floorDiv_f86c9_27 (divJ l0 l2) s Q)) ∧ (¬ ((w64 ((divJ l0 l2) * l2)) = l0) → (Q (w64 ((divJ l0 l2) - 1)) s)))))
set_option maxRecDepth 16384 in
theorem c_J9_floorDiv_f86c9 (L : Nat) (ys : Nat → Int32) (d : Nat) (s : im_S) (hv : jI s) (l0 : Int) (l0r : lR l0) (l2 : Int) (l2r : lR l2) (Q : Int → im_S → Prop) (hW : C_J9_floorDiv_f86c9 l0 l2 s Q) : pcI L ys 1 d 239 [(1, l0), (1, l2)] s (fun z9 s9 => jI s9 ∧ lR z9 ∧ Q z9 s9) := by
  intro res hres
  refine pq_start (M := rm_p_J9_floorDiv_f86c9) (Q := (fun r : im_Re => ∃ z, r.1 = some (1, z) ∧ (jI r.2 ∧ lR z ∧ Q z r.2))) om_J9_floorDiv_f86c9 (fun d N => ?_) res hres
  refine pq_w [(0, (1, l0)), (2, (1, l2))] ⟨rfl, rfl, trivial⟩ ?_
  have J27 : ∀ N27 : Nat, N27 ≤ N → ∀ (l4 : Int) (l4r : lR l4) (s : im_S) (hv : jI s), C_J9_floorDiv_f86c9_27 l4 s Q → pq L ys d N27 rm_p_J9_floorDiv_f86c9 (27, [(4, (1, l4))], [], s) (fun r : im_Re => ∃ z, r.1 = some (1, z) ∧ (jI r.2 ∧ lR z ∧ Q z r.2)) := by
    intro N27 hN27 l4 l4r s hv hW
    unfold C_J9_floorDiv_f86c9_27 at hW
    refine pq_l (pc' := 29) rfl rfl rfl rfl rfl ?_
    exact pq_lret rfl ⟨_, rfl, hv, l4r, hW⟩
  unfold C_J9_floorDiv_f86c9 at hW
  refine pq_l (pc' := 1) rfl rfl rfl rfl rfl ?_
  refine pq_l (pc' := 2) rfl rfl rfl rfl rfl ?_
  refine pq_ldiv (pc' := 3) rfl rfl ?_
  refine pq_s2 (pc' := 5) rfl rfl rfl rfl rfl ?_
  refine pq_l (pc' := 6) rfl rfl rfl rfl rfl ?_
  refine pq_l (pc' := 7) rfl rfl rfl rfl rfl ?_
  refine pq_lxor (pc' := 8) rfl rfl ?_
  refine pq_k (pc' := 9) (v := (1, 0)) rfl rfl rfl (fun _ => rfl) ?_
  refine pq_lcmp (pc' := 10) rfl rfl (xorJ_r _ _) (⟨by decide, by decide⟩ : lR 0) (fun z1 z1c => ?_)
  refine pq_z_ge (pt := 27) (pc' := 13) rfl rfl rfl (fun c2 => ?_) (fun c2 => ?_)
  · have c2 : 0 ≤ (xorJ l0 l2) := by omega
    have hW := hW.1 c2
    refine pq_w [(4, (1, (divJ l0 l2)))] ⟨rfl, trivial⟩ ?_
    exact J27 N (by omega) (divJ l0 l2) (divJ_r _ _) s hv hW
  · have c2 : ¬ (0 ≤ (xorJ l0 l2)) := by omega
    have hW := hW.2 c2
    refine pq_l (pc' := 15) rfl rfl rfl rfl rfl ?_
    refine pq_l (pc' := 16) rfl rfl rfl rfl rfl ?_
    refine pq_lmul (pc' := 17) rfl rfl ?_
    refine pq_l (pc' := 18) rfl rfl rfl rfl rfl ?_
    refine pq_lcmp (pc' := 19) rfl rfl (w64_r _) l0r (fun z3 z3c => ?_)
    refine pq_z_eq (pt := 27) (pc' := 22) rfl rfl rfl (fun c4 => ?_) (fun c4 => ?_)
    · have c4 : (w64 ((divJ l0 l2) * l2)) = l0 := by omega
      have hW := hW.1 c4
      refine pq_w [(4, (1, (divJ l0 l2)))] ⟨rfl, trivial⟩ ?_
      exact J27 N (by omega) (divJ l0 l2) (divJ_r _ _) s hv hW
    · have c4 : ¬ ((w64 ((divJ l0 l2) * l2)) = l0) := by omega
      have hW := hW.2 c4
      refine pq_l (pc' := 24) rfl rfl rfl rfl rfl ?_
      refine pq_k (pc' := 25) (v := (1, 1)) rfl rfl rfl (fun _ => rfl) ?_
      refine pq_lsub (pc' := 26) rfl rfl ?_
      exact pq_lret rfl ⟨_, rfl, hv, (w64_r _), hW⟩
def C_setFraction8 (l0 : Nat) (l1 : Int) (l3 : Int) (s : im_S) (Q : im_S → Prop) : Prop := (∀ s1, s1 = cpf s l0 2 l1 → (C_J9_max_f86c9 1 l3 s1 (fun z3 s2 => (∀ s4, s4 = cpf s2 l0 3 z3 → (C_J9_floorDiv_f86c9 l1 (cgf s4 l0 3) s4 (fun z7 s6 => (∀ s8, s8 = cpf s6 l0 4 z7 → (C_J9_floorMod_f86c9 l1 (cgf s8 l0 3) s8 (fun z11 s10 => (∀ s12, s12 = cpf s10 l0 5 z11 → (∀ s13, s13 = cpf s12 l0 1 1 → (Q s13))))))))))))
set_option maxRecDepth 16384 in
theorem c_setFraction8 (L : Nat) (ys : Nat → Int32) (d : Nat) (s : im_S) (hv : jI s) (l0 : Nat) (l1 : Int) (l1r : lR l1) (l3 : Int) (l3r : lR l3) (Q : im_S → Prop) (hW : C_setFraction8 l0 l1 l3 s Q) : pcV L ys d 204 [(2, ((l0 : Nat) : Int)), (1, l1), (1, l3)] s (fun s9 => jI s9 ∧ Q s9) := by
  intro res hres
  refine pq_start (M := rm_p_X8_setFraction) (Q := (fun r : im_Re => r.1 = none ∧ (jI r.2 ∧ Q r.2))) om_X8_setFraction (fun d N => ?_) res hres
  refine pq_w [(0, (2, ((l0 : Nat) : Int))), (1, (1, l1)), (3, (1, l3))] ⟨rfl, rfl, rfl, trivial⟩ ?_
  unfold C_setFraction8 at hW
  refine pq_l (pc' := 1) rfl rfl rfl rfl rfl ?_
  refine pq_l (pc' := 2) rfl rfl rfl rfl rfl ?_
  refine pq_pX (pc' := 5) rfl rfl rfl rfl (fun e => absurd e (by decide)) (fun e => absurd e (by decide)) hv (fun s1 s1e s1v => ?_)
  have hW := hW s1 s1e
  refine pq_l (pc' := 6) rfl rfl rfl rfl rfl ?_
  refine pq_k (pc' := 7) (v := (1, 1)) rfl rfl rfl (fun _ => rfl) ?_
  refine pq_l (pc' := 8) rfl rfl rfl rfl rfl ?_
  refine pq_cSI (pc' := 11) rfl rfl rfl rfl rfl (c_J9_max_f86c9 L ys d s1 s1v 1 (⟨by decide, by decide⟩ : lR 1) l3 l3r _ hW) (fun z3 s2 hr => ?_)
  obtain ⟨s2v, z3r, hW⟩ := hr
  refine pq_pX (pc' := 14) rfl rfl rfl rfl (fun e => absurd e (by decide)) (fun e => absurd e (by decide)) s2v (fun s4 s4e s4v => ?_)
  have hW := hW s4 s4e
  refine pq_l (pc' := 15) rfl rfl rfl rfl rfl ?_
  refine pq_l (pc' := 16) rfl rfl rfl rfl rfl ?_
  refine pq_l (pc' := 17) rfl rfl rfl rfl rfl ?_
  refine pq_gj (pc' := 20) rfl rfl rfl rfl (fun r5 => ?_)
  refine pq_cSI (pc' := 23) rfl rfl rfl rfl rfl (c_J9_floorDiv_f86c9 L ys d s4 s4v l1 l1r (cgf s4 l0 3) r5 _ hW) (fun z7 s6 hr => ?_)
  obtain ⟨s6v, z7r, hW⟩ := hr
  refine pq_pX (pc' := 26) rfl rfl rfl rfl (fun e => absurd e (by decide)) (fun e => absurd e (by decide)) s6v (fun s8 s8e s8v => ?_)
  have hW := hW s8 s8e
  refine pq_l (pc' := 27) rfl rfl rfl rfl rfl ?_
  refine pq_l (pc' := 28) rfl rfl rfl rfl rfl ?_
  refine pq_l (pc' := 29) rfl rfl rfl rfl rfl ?_
  refine pq_gj (pc' := 32) rfl rfl rfl rfl (fun r9 => ?_)
  refine pq_cSI (pc' := 35) rfl rfl rfl rfl rfl (c_J9_floorMod_f86c9 L ys d s8 s8v l1 l1r (cgf s8 l0 3) r9 _ hW) (fun z11 s10 hr => ?_)
  obtain ⟨s10v, z11r, hW⟩ := hr
  refine pq_pX (pc' := 38) rfl rfl rfl rfl (fun e => absurd e (by decide)) (fun e => absurd e (by decide)) s10v (fun s12 s12e s12v => ?_)
  have hW := hW s12 s12e
  refine pq_l (pc' := 39) rfl rfl rfl rfl rfl ?_
  refine pq_k (pc' := 40) (v := (0, 1)) rfl rfl rfl (fun _ => rfl) ?_
  refine pq_pX (pc' := 43) rfl rfl rfl rfl (fun e => absurd e (by decide)) (fun e => absurd e (by decide)) s12v (fun s13 s13e s13v => ?_)
  have hW := hW s13 s13e
  exact pq_vret rfl ⟨rfl, s13v, hW⟩
def C_J9_floorDiv_7cf53_21 (l2 : Int) (s : im_S) (Q : Int → im_S → Prop) : Prop := (Q l2 s)
def C_J9_floorDiv_7cf53 (l0 : Int) (l1 : Int) (s : im_S) (Q : Int → im_S → Prop) : Prop := ((0 ≤ (xorI l0 l1) → (C_J9_floorDiv_7cf53_21 (divI l0 l1) s Q)) ∧ (¬ (0 ≤ (xorI l0 l1)) → (((w32 ((divI l0 l1) * l1)) = l0 → (C_J9_floorDiv_7cf53_21 (divI l0 l1) s Q)) ∧ (¬ ((w32 ((divI l0 l1) * l1)) = l0) → (Q (w32 ((divI l0 l1) - 1)) s)))))
set_option maxRecDepth 16384 in
theorem c_J9_floorDiv_7cf53 (L : Nat) (ys : Nat → Int32) (d : Nat) (s : im_S) (hv : jI s) (l0 : Int) (l0r : iR l0) (l1 : Int) (l1r : iR l1) (Q : Int → im_S → Prop) (hW : C_J9_floorDiv_7cf53 l0 l1 s Q) : pcI L ys 0 d 238 [(0, l0), (0, l1)] s (fun z9 s9 => jI s9 ∧ iR z9 ∧ Q z9 s9) := by
  intro res hres
  refine pq_start (M := rm_p_J9_floorDiv_7cf53) (Q := (fun r : im_Re => ∃ z, r.1 = some (0, z) ∧ (jI r.2 ∧ iR z ∧ Q z r.2))) om_J9_floorDiv_7cf53 (fun d N => ?_) res hres
  refine pq_w [(0, (0, l0)), (1, (0, l1))] ⟨rfl, rfl, trivial⟩ ?_
  have J21 : ∀ N21 : Nat, N21 ≤ N → ∀ (l2 : Int) (l2r : iR l2) (s : im_S) (hv : jI s), C_J9_floorDiv_7cf53_21 l2 s Q → pq L ys d N21 rm_p_J9_floorDiv_7cf53 (21, [(2, (0, l2))], [], s) (fun r : im_Re => ∃ z, r.1 = some (0, z) ∧ (jI r.2 ∧ iR z ∧ Q z r.2)) := by
    intro N21 hN21 l2 l2r s hv hW
    unfold C_J9_floorDiv_7cf53_21 at hW
    refine pq_l (pc' := 22) rfl rfl rfl rfl rfl ?_
    exact pq_iret rfl ⟨_, rfl, hv, l2r, hW⟩
  unfold C_J9_floorDiv_7cf53 at hW
  refine pq_l (pc' := 1) rfl rfl rfl rfl rfl ?_
  refine pq_l (pc' := 2) rfl rfl rfl rfl rfl ?_
  refine pq_idiv (pc' := 3) rfl rfl ?_
  refine pq_s (pc' := 4) rfl rfl rfl rfl rfl ?_
  refine pq_l (pc' := 5) rfl rfl rfl rfl rfl ?_
  refine pq_l (pc' := 6) rfl rfl rfl rfl rfl ?_
  refine pq_ixor (pc' := 7) rfl rfl ?_
  refine pq_z_ge (pt := 21) (pc' := 10) rfl rfl rfl (fun c1 => ?_) (fun c1 => ?_)
  · have hW := hW.1 c1
    refine pq_w [(2, (0, (divI l0 l1)))] ⟨rfl, trivial⟩ ?_
    exact J21 N (by omega) (divI l0 l1) (divI_r _ _) s hv hW
  · have hW := hW.2 c1
    refine pq_l (pc' := 11) rfl rfl rfl rfl rfl ?_
    refine pq_l (pc' := 12) rfl rfl rfl rfl rfl ?_
    refine pq_mul (pc' := 13) rfl rfl ?_
    refine pq_l (pc' := 14) rfl rfl rfl rfl rfl ?_
    refine pq_c_eq (pt := 21) (pc' := 17) rfl rfl rfl (fun c2 => ?_) (fun c2 => ?_)
    · have hW := hW.1 c2
      refine pq_w [(2, (0, (divI l0 l1)))] ⟨rfl, trivial⟩ ?_
      exact J21 N (by omega) (divI l0 l1) (divI_r _ _) s hv hW
    · have hW := hW.2 c2
      refine pq_l (pc' := 18) rfl rfl rfl rfl rfl ?_
      refine pq_k (pc' := 19) (v := (0, 1)) rfl rfl rfl (fun _ => rfl) ?_
      refine pq_sub (pc' := 20) rfl rfl ?_
      exact pq_iret rfl ⟨_, rfl, hv, (w32_r _), hW⟩
def C_reach5_75 (K16 : Int × Int × im_S → Prop) (l0 : Nat) (l1 : Int) (l2 : Int) (l3 : Int) (s : im_S) (Q : Int → im_S → Prop) : Prop := (K16 (l1, (w32 (l3 + 1)), s))
def C_reach5_16 (K16 : Int × Int × im_S → Prop) (l0 : Nat) (l2 : Int) (l1 : Int) (l3 : Int) (s : im_S) (Q : Int → im_S → Prop) : Prop := (((cgf s l0 0) < l3 → (C_J9_min_7cf53 l1 30 s (fun z5 s4 => (Q z5 s4)))) ∧ (¬ ((cgf s l0 0) < l3) → (caJ s (l0 + 1) (w32 ((cgf s l0 0) - l3)) → (C_J9_abs_067f4 (cga s (l0 + 1) (w32 ((cgf s l0 0) - l3))) s (fun z9 s8 => ((z9 = 0 → (C_reach5_75 K16 l0 l1 l2 l3 s8 Q)) ∧ (¬ (z9 = 0) → (C_width1 z9 s8 (fun z13 s12 => (C_J9_floorDiv_7cf53 (w32 ((w32 ((w32 ((w32 (z13 - l2)) + 1)) + l3)) - 1)) l3 s12 (fun z15 s14 => (C_J9_max_7cf53 l1 (w32 (z15 + 1)) s14 (fun z17 s16 => (C_reach5_75 K16 l0 z17 l2 l3 s16 Q))))))))))))))
def C_reach5 (l0 : Nat) (s : im_S) (Q : Int → im_S → Prop) : Prop := (C_lead6 l0 s (fun z19 s18 => (C_J9_abs_067f4 z19 s18 (fun z21 s20 => (C_width1 z21 s20 (fun z23 s22 => (ploop (fun (K : Int × Int × im_S → Prop) (a : Int × Int × im_S) => C_reach5_16 K l0 z23 a.1 a.2.1 a.2.2 Q) ((-32), 1, s22))))))))
set_option maxRecDepth 16384 in
theorem c_reach5 (L : Nat) (ys : Nat → Int32) (d : Nat) (s : im_S) (hv : jI s) (l0 : Nat) (Q : Int → im_S → Prop) (hW : C_reach5 l0 s Q) : pcI L ys 0 d 168 [(2, ((l0 : Nat) : Int))] s (fun z9 s9 => jI s9 ∧ iR z9 ∧ Q z9 s9) := by
  intro res hres
  refine pq_start (M := rm_p_X5_reach) (Q := (fun r : im_Re => ∃ z, r.1 = some (0, z) ∧ (jI r.2 ∧ iR z ∧ Q z r.2))) om_X5_reach (fun d N => ?_) res hres
  refine pq_w [(0, (2, ((l0 : Nat) : Int)))] ⟨rfl, trivial⟩ ?_
  have J16 : ∀ (l0 : Nat) (l2 : Int) (l2r : iR l2) (I16 : Int × Int × im_S → Prop) (hB16 : ∀ a : Int × Int × im_S, I16 a → C_reach5_16 I16 l0 l2 a.1 a.2.1 a.2.2 Q), ∀ N16 : Nat, N16 ≤ N → ∀ (l1 : Int) (l1r : iR l1) (l3 : Int) (l3r : iR l3) (s : im_S) (hv : jI s), I16 (l1, l3, s) → pq L ys d N16 rm_p_X5_reach (16, [(0, (2, ((l0 : Nat) : Int))), (1, (0, l1)), (2, (0, l2)), (3, (0, l3))], [], s) (fun r : im_Re => ∃ z, r.1 = some (0, z) ∧ (jI r.2 ∧ iR z ∧ Q z r.2)) := by
    intro l0 l2 l2r I16 hB16 N16
    induction N16 using Nat.strongRecOn with
    | _ N16 ih16 =>
      intro hN16 l1 l1r l3 l3r s hv hI
      have hW : C_reach5_16 I16 l0 l2 l1 l3 s Q := hB16 (l1, l3, s) hI
      have J75 : ∀ N75 : Nat, N75 ≤ N16 → ∀ (l1 : Int) (l1r : iR l1) (l3 : Int) (l3r : iR l3) (s : im_S) (hv : jI s), C_reach5_75 I16 l0 l1 l2 l3 s Q → pq L ys d N75 rm_p_X5_reach (75, [(0, (2, ((l0 : Nat) : Int))), (1, (0, l1)), (2, (0, l2)), (3, (0, l3))], [], s) (fun r : im_Re => ∃ z, r.1 = some (0, z) ∧ (jI r.2 ∧ iR z ∧ Q z r.2)) := by
        intro N75 hN75 l1 l1r l3 l3r s hv hW
        unfold C_reach5_75 at hW
        refine pq_inc (pc' := 78) rfl rfl rfl rfl ?_
        refine pq_gotoT (pc' := 16) rfl rfl (fun m1 m1l => ?_)
        refine pq_w [(0, (2, ((l0 : Nat) : Int))), (1, (0, l1)), (2, (0, l2)), (3, (0, (w32 (l3 + 1))))] ⟨rfl, rfl, rfl, rfl, trivial⟩ ?_
        exact ih16 m1 (by omega) (by omega) l1 l1r (w32 (l3 + 1)) (w32_r _) s hv hW
      unfold C_reach5_16 at hW
      refine pq_l (pc' := 17) rfl rfl rfl rfl rfl ?_
      refine pq_l (pc' := 18) rfl rfl rfl rfl rfl ?_
      refine pq_gi (pc' := 21) rfl rfl rfl rfl rfl (fun r2 => ?_)
      refine pq_c_gt (pt := 81) (pc' := 24) rfl rfl rfl (fun c3 => ?_) (fun c3 => ?_)
      · have hW := hW.1 c3
        refine pq_l (pc' := 82) rfl rfl rfl rfl rfl ?_
        refine pq_k (pc' := 84) (v := (0, 30)) rfl rfl rfl (fun _ => rfl) ?_
        refine pq_cSI (pc' := 87) rfl rfl rfl rfl rfl (c_J9_min_7cf53 L ys d s hv l1 l1r 30 (⟨by decide, by decide⟩ : iR 30) _ hW) (fun z5 s4 hr => ?_)
        obtain ⟨s4v, z5r, hW⟩ := hr
        exact pq_iret rfl ⟨_, rfl, s4v, z5r, hW⟩
      · have hW := hW.2 c3
        refine pq_l (pc' := 25) rfl rfl rfl rfl rfl ?_
        refine pq_gr (pc' := 28) (c := (l0 + 1)) (v := 0) rfl rfl rfl rfl rfl rfl hv ?_
        refine pq_l (pc' := 29) rfl rfl rfl rfl rfl ?_
        refine pq_gi (pc' := 32) rfl rfl rfl rfl rfl (fun r6 => ?_)
        refine pq_l (pc' := 33) rfl rfl rfl rfl rfl ?_
        refine pq_sub (pc' := 34) rfl rfl ?_
        refine pq_la (pc' := 35) rfl rfl (fun r7a r7b r7 => ?_)
        have hW := hW ⟨⟨r7a, r7b⟩, r7⟩
        refine pq_cSI (pc' := 38) rfl rfl rfl rfl rfl (c_J9_abs_067f4 L ys d s hv (cga s (l0 + 1) (w32 ((cgf s l0 0) - l3))) r7 _ hW) (fun z9 s8 hr => ?_)
        obtain ⟨s8v, z9r, hW⟩ := hr
        refine pq_s2 (pc' := 40) rfl rfl rfl rfl rfl ?_
        refine pq_l (pc' := 42) rfl rfl rfl rfl rfl ?_
        refine pq_k (pc' := 43) (v := (1, 0)) rfl rfl rfl (fun _ => rfl) ?_
        refine pq_lcmp (pc' := 44) rfl rfl z9r (⟨by decide, by decide⟩ : lR 0) (fun z10 z10c => ?_)
        refine pq_z_eq (pt := 75) (pc' := 47) rfl rfl rfl (fun c11 => ?_) (fun c11 => ?_)
        · have c11 : z9 = 0 := by omega
          have hW := hW.1 c11
          refine pq_w [(0, (2, ((l0 : Nat) : Int))), (1, (0, l1)), (2, (0, l2)), (3, (0, l3))] ⟨rfl, rfl, rfl, rfl, trivial⟩ ?_
          exact J75 N16 (by omega) l1 l1r l3 l3r s8 s8v hW
        · have c11 : ¬ (z9 = 0) := by omega
          have hW := hW.2 c11
          refine pq_l (pc' := 49) rfl rfl rfl rfl rfl ?_
          refine pq_cSI (pc' := 52) rfl rfl rfl rfl rfl (c_width1 L ys d s8 s8v z9 z9r _ hW) (fun z13 s12 hr => ?_)
          obtain ⟨s12v, z13r, hW⟩ := hr
          refine pq_l (pc' := 53) rfl rfl rfl rfl rfl ?_
          refine pq_sub (pc' := 54) rfl rfl ?_
          refine pq_k (pc' := 55) (v := (0, 1)) rfl rfl rfl (fun _ => rfl) ?_
          refine pq_add (pc' := 56) rfl rfl ?_
          refine pq_s (pc' := 58) rfl rfl rfl rfl rfl ?_
          refine pq_l (pc' := 59) rfl rfl rfl rfl rfl ?_
          refine pq_l (pc' := 61) rfl rfl rfl rfl rfl ?_
          refine pq_l (pc' := 62) rfl rfl rfl rfl rfl ?_
          refine pq_add (pc' := 63) rfl rfl ?_
          refine pq_k (pc' := 64) (v := (0, 1)) rfl rfl rfl (fun _ => rfl) ?_
          refine pq_sub (pc' := 65) rfl rfl ?_
          refine pq_l (pc' := 66) rfl rfl rfl rfl rfl ?_
          refine pq_cSI (pc' := 69) rfl rfl rfl rfl rfl (c_J9_floorDiv_7cf53 L ys d s12 s12v (w32 ((w32 ((w32 ((w32 (z13 - l2)) + 1)) + l3)) - 1)) (w32_r _) l3 l3r _ hW) (fun z15 s14 hr => ?_)
          obtain ⟨s14v, z15r, hW⟩ := hr
          refine pq_k (pc' := 70) (v := (0, 1)) rfl rfl rfl (fun _ => rfl) ?_
          refine pq_add (pc' := 71) rfl rfl ?_
          refine pq_cSI (pc' := 74) rfl rfl rfl rfl rfl (c_J9_max_7cf53 L ys d s14 s14v l1 l1r (w32 (z15 + 1)) (w32_r _) _ hW) (fun z17 s16 hr => ?_)
          obtain ⟨s16v, z17r, hW⟩ := hr
          refine pq_s (pc' := 75) rfl rfl rfl rfl rfl ?_
          refine pq_w [(0, (2, ((l0 : Nat) : Int))), (1, (0, z17)), (2, (0, l2)), (3, (0, l3))] ⟨rfl, rfl, rfl, rfl, trivial⟩ ?_
          exact J75 N16 (by omega) z17 z17r l3 l3r s16 s16v hW
  unfold C_reach5 at hW
  refine pq_k (pc' := 2) (v := (0, (-32))) rfl rfl rfl (fun _ => rfl) ?_
  refine pq_s (pc' := 3) rfl rfl rfl rfl rfl ?_
  refine pq_l (pc' := 4) rfl rfl rfl rfl rfl ?_
  refine pq_cVI (pc' := 7) rfl rfl rfl rfl rfl (c_lead6 L ys d s hv l0 _ hW) (fun z19 s18 hr => ?_)
  obtain ⟨s18v, z19r, hW⟩ := hr
  refine pq_cSI (pc' := 10) rfl rfl rfl rfl rfl (c_J9_abs_067f4 L ys d s18 s18v z19 z19r _ hW) (fun z21 s20 hr => ?_)
  obtain ⟨s20v, z21r, hW⟩ := hr
  refine pq_cSI (pc' := 13) rfl rfl rfl rfl rfl (c_width1 L ys d s20 s20v z21 z21r _ hW) (fun z23 s22 hr => ?_)
  obtain ⟨s22v, z23r, hW⟩ := hr
  refine pq_s (pc' := 14) rfl rfl rfl rfl rfl ?_
  refine pq_k (pc' := 15) (v := (0, 1)) rfl rfl rfl (fun _ => rfl) ?_
  refine pq_s (pc' := 16) rfl rfl rfl rfl rfl ?_
  refine pq_w [(0, (2, ((l0 : Nat) : Int))), (1, (0, (-32))), (2, (0, z23)), (3, (0, 1))] ⟨rfl, rfl, rfl, rfl, trivial⟩ ?_
  obtain ⟨I9, hI9, hB9⟩ := hW
  exact J16 l0 z23 z23r I9 hB9 N (by omega) (-32) (⟨by decide, by decide⟩ : iR (-32)) 1 (⟨by decide, by decide⟩ : iR 1) s22 s22v hI9
def C_moveBy5_18 (K2 : Int × im_S → Prop) (K18 : Int × im_S → Prop) (l2 : Int) (l3 : Int) (l4 : Int) (s : im_S) (Q : im_S → Prop) : Prop := ((l4 < l3 → (K2 ((w32 (l3 + 1)), s))) ∧ (¬ (l4 < l3) → (C_add1 (270 + 4 * (l4).toNat) (270 + 4 * ((w32 (l4 + 1))).toNat) l2 s (fun s5 => (K18 ((w32 (l4 + (-1))), s5))))))
def C_moveBy5_2 (K2 : Int × im_S → Prop) (l2 : Int) (l3 : Int) (s : im_S) (Q : im_S → Prop) : Prop := (((cgf s 267 4) ≤ l3 → (Q s)) ∧ (¬ ((cgf s 267 4) ≤ l3) → (ploop (fun (K : Int × im_S → Prop) (a : Int × im_S) => C_moveBy5_18 K2 K l2 l3 a.1 a.2 Q) ((w32 ((cgf s 267 4) - 1)), s))))
def C_moveBy5 (l2 : Int) (s : im_S) (Q : im_S → Prop) : Prop := (ploop (fun (K : Int × im_S → Prop) (a : Int × im_S) => C_moveBy5_2 K l2 a.1 a.2 Q) (0, s))
set_option maxRecDepth 16384 in
theorem c_moveBy5 (L : Nat) (ys : Nat → Int32) (d : Nat) (s : im_S) (hv : jI s) (l2 : Int) (l2r : iR l2) (Q : im_S → Prop) (hW : C_moveBy5 l2 s Q) : pcV L ys d 166 [(2, ((267 : Nat) : Int)), (2, ((268 : Nat) : Int)), (0, l2)] s (fun s9 => jI s9 ∧ Q s9) := by
  intro res hres
  refine pq_start (M := rm_p_X5_moveBy) (Q := (fun r : im_Re => r.1 = none ∧ (jI r.2 ∧ Q r.2))) om_X5_moveBy (fun d N => ?_) res hres
  refine pq_w [(0, (2, ((267 : Nat) : Int))), (1, (2, ((268 : Nat) : Int))), (2, (0, l2))] ⟨rfl, rfl, rfl, trivial⟩ ?_
  have J2 : ∀ (l2 : Int) (l2r : iR l2) (I2 : Int × im_S → Prop) (hB2 : ∀ a : Int × im_S, I2 a → C_moveBy5_2 I2 l2 a.1 a.2 Q), ∀ N2 : Nat, N2 ≤ N → ∀ (l3 : Int) (l3r : iR l3) (s : im_S) (hv : jI s), I2 (l3, s) → pq L ys d N2 rm_p_X5_moveBy (2, [(0, (2, ((267 : Nat) : Int))), (1, (2, ((268 : Nat) : Int))), (2, (0, l2)), (3, (0, l3))], [], s) (fun r : im_Re => r.1 = none ∧ (jI r.2 ∧ Q r.2)) := by
    intro l2 l2r I2 hB2 N2
    induction N2 using Nat.strongRecOn with
    | _ N2 ih2 =>
      intro hN2 l3 l3r s hv hI
      have hW : C_moveBy5_2 I2 l2 l3 s Q := hB2 (l3, s) hI
      have J18 : ∀ (l3 : Int) (l3r : iR l3) (I18 : Int × im_S → Prop) (hB18 : ∀ a : Int × im_S, I18 a → C_moveBy5_18 I2 I18 l2 l3 a.1 a.2 Q), ∀ N18 : Nat, N18 ≤ N2 → ∀ (l4 : Int) (l4r : iR l4) (s : im_S) (hv : jI s), I18 (l4, s) → pq L ys d N18 rm_p_X5_moveBy (18, [(0, (2, ((267 : Nat) : Int))), (1, (2, ((268 : Nat) : Int))), (2, (0, l2)), (3, (0, l3)), (4, (0, l4))], [], s) (fun r : im_Re => r.1 = none ∧ (jI r.2 ∧ Q r.2)) := by
        intro l3 l3r I18 hB18 N18
        induction N18 using Nat.strongRecOn with
        | _ N18 ih18 =>
          intro hN18 l4 l4r s hv hI
          have hW : C_moveBy5_18 I2 I18 l2 l3 l4 s Q := hB18 (l4, s) hI
          unfold C_moveBy5_18 at hW
          refine pq_l (pc' := 20) rfl rfl rfl rfl rfl ?_
          refine pq_l (pc' := 21) rfl rfl rfl rfl rfl ?_
          refine pq_c_lt (pt := 44) (pc' := 24) rfl rfl rfl (fun c1 => ?_) (fun c1 => ?_)
          · have hW := hW.1 c1
            refine pq_inc (pc' := 47) rfl rfl rfl rfl ?_
            refine pq_gotoT (pc' := 2) rfl rfl (fun m2 m2l => ?_)
            refine pq_w [(0, (2, ((267 : Nat) : Int))), (1, (2, ((268 : Nat) : Int))), (2, (0, l2)), (3, (0, (w32 (l3 + 1))))] ⟨rfl, rfl, rfl, rfl, trivial⟩ ?_
            exact ih2 m2 (by omega) (by omega) (w32 (l3 + 1)) (w32_r _) s hv hW
          · have hW := hW.2 c1
            refine pq_l (pc' := 25) rfl rfl rfl rfl rfl ?_
            refine pq_l (pc' := 27) rfl rfl rfl rfl rfl ?_
            refine pq_aa (pc' := 28) (b := 270) (k := 4) (n := 9) (m := 9) rfl rfl rfl rfl rfl hv (fun r3a r3b => ?_)
            refine pq_l (pc' := 29) rfl rfl rfl rfl rfl ?_
            refine pq_l (pc' := 31) rfl rfl rfl rfl rfl ?_
            refine pq_k (pc' := 32) (v := (0, 1)) rfl rfl rfl (fun _ => rfl) ?_
            refine pq_add (pc' := 33) rfl rfl ?_
            refine pq_aa (pc' := 34) (b := 270) (k := 4) (n := 9) (m := 9) rfl rfl rfl rfl rfl hv (fun r4a r4b => ?_)
            refine pq_l (pc' := 35) rfl rfl rfl rfl rfl ?_
            refine pq_cVV (pc' := 38) rfl rfl rfl rfl rfl (c_add1 L ys d s hv (270 + 4 * (l4).toNat) (⟨by omega, by omega⟩ : nb (270 + 4 * (l4).toNat)) (270 + 4 * ((w32 (l4 + 1))).toNat) l2 l2r _ hW) (fun s5 hr => ?_)
            obtain ⟨s5v, hW⟩ := hr
            refine pq_inc (pc' := 41) rfl rfl rfl rfl ?_
            refine pq_gotoT (pc' := 18) rfl rfl (fun m7 m7l => ?_)
            refine pq_w [(0, (2, ((267 : Nat) : Int))), (1, (2, ((268 : Nat) : Int))), (2, (0, l2)), (3, (0, l3)), (4, (0, (w32 (l4 + (-1)))))] ⟨rfl, rfl, rfl, rfl, rfl, trivial⟩ ?_
            exact ih18 m7 (by omega) (by omega) (w32 (l4 + (-1))) (w32_r _) s5 s5v hW
      unfold C_moveBy5_2 at hW
      refine pq_l (pc' := 3) rfl rfl rfl rfl rfl ?_
      refine pq_l (pc' := 4) rfl rfl rfl rfl rfl ?_
      refine pq_gi (pc' := 7) rfl rfl rfl rfl rfl (fun r8 => ?_)
      refine pq_c_ge (pt := 50) (pc' := 10) rfl rfl rfl (fun c9 => ?_) (fun c9 => ?_)
      · have hW := hW.1 c9
        exact pq_vret rfl ⟨rfl, hv, hW⟩
      · have hW := hW.2 c9
        refine pq_l (pc' := 11) rfl rfl rfl rfl rfl ?_
        refine pq_gi (pc' := 14) rfl rfl rfl rfl rfl (fun r10 => ?_)
        refine pq_k (pc' := 15) (v := (0, 1)) rfl rfl rfl (fun _ => rfl) ?_
        refine pq_sub (pc' := 16) rfl rfl ?_
        refine pq_s (pc' := 18) rfl rfl rfl rfl rfl ?_
        refine pq_w [(0, (2, ((267 : Nat) : Int))), (1, (2, ((268 : Nat) : Int))), (2, (0, l2)), (3, (0, l3)), (4, (0, (w32 ((cgf s 267 4) - 1))))] ⟨rfl, rfl, rfl, rfl, rfl, trivial⟩ ?_
        obtain ⟨I9, hI9, hB9⟩ := hW
        exact J18 l3 l3r I9 hB9 N2 (by omega) (w32 ((cgf s 267 4) - 1)) (w32_r _) s hv hI9
  unfold C_moveBy5 at hW
  refine pq_k (pc' := 1) (v := (0, 0)) rfl rfl rfl (fun _ => rfl) ?_
  refine pq_s (pc' := 2) rfl rfl rfl rfl rfl ?_
  refine pq_w [(0, (2, ((267 : Nat) : Int))), (1, (2, ((268 : Nat) : Int))), (2, (0, l2)), (3, (0, 0))] ⟨rfl, rfl, rfl, rfl, trivial⟩ ?_
  obtain ⟨I9, hI9, hB9⟩ := hW
  exact J2 l2 l2r I9 hB9 N (by omega) 0 (⟨by decide, by decide⟩ : iR 0) s hv hI9
def C_begin5_15 (K15 : Int × im_S → Prop) (l1 : Nat) (l2 : Int) (l3 : Int) (s : im_S) (Q : im_S → Prop) : Prop := (((cgf s 267 4) < l3 → (C_moveBy5 (-1) s (fun s3 => (C_set1 306 (-1) s3 (fun s5 => (Q s5)))))) ∧ (¬ ((cgf s 267 4) < l3) → (caJ s (l1 + 1) l3 → (C_set1 (270 + 4 * (l3).toNat) (cga s (l1 + 1) l3) s (fun s9 => (∀ v212 : Int, v212 = (if 0 ≤ l2 then (w32 (l2 * (w32 ((cgf s9 267 4) - l3)))) else (w32 ((w32 (-l2)) * l3))) → (C_shiftUp1 (270 + 4 * (l3).toNat) v212 s9 (fun s214 => (K15 ((w32 (l3 + 1)), s214))))))))))
def C_begin5 (l1 : Nat) (l2 : Int) (s : im_S) (Q : im_S → Prop) : Prop := (∀ s218, s218 = cpf s 267 4 (cgf s l1 0) → (∀ s219, s219 = cpf s218 267 5 l2 → (ploop (fun (K : Int × im_S → Prop) (a : Int × im_S) => C_begin5_15 K l1 l2 a.1 a.2 Q) (0, s219))))
set_option maxRecDepth 16384 in
theorem c_begin5 (L : Nat) (ys : Nat → Int32) (d : Nat) (s : im_S) (hv : jI s) (l1 : Nat) (l2 : Int) (l2r : iR l2) (Q : im_S → Prop) (hW : C_begin5 l1 l2 s Q) : pcV L ys d 160 [(2, ((267 : Nat) : Int)), (2, ((l1 : Nat) : Int)), (0, l2)] s (fun s9 => jI s9 ∧ Q s9) := by
  intro res hres
  refine pq_start (M := rm_p_X5_begin) (Q := (fun r : im_Re => r.1 = none ∧ (jI r.2 ∧ Q r.2))) om_X5_begin (fun d N => ?_) res hres
  refine pq_w [(0, (2, ((267 : Nat) : Int))), (1, (2, ((l1 : Nat) : Int))), (2, (0, l2))] ⟨rfl, rfl, rfl, trivial⟩ ?_
  have J15 : ∀ (l1 : Nat) (l2 : Int) (l2r : iR l2) (I15 : Int × im_S → Prop) (hB15 : ∀ a : Int × im_S, I15 a → C_begin5_15 I15 l1 l2 a.1 a.2 Q), ∀ N15 : Nat, N15 ≤ N → ∀ (l3 : Int) (l3r : iR l3) (s : im_S) (hv : jI s), I15 (l3, s) → pq L ys d N15 rm_p_X5_begin (15, [(0, (2, ((267 : Nat) : Int))), (1, (2, ((l1 : Nat) : Int))), (2, (0, l2)), (3, (0, l3))], [], s) (fun r : im_Re => r.1 = none ∧ (jI r.2 ∧ Q r.2)) := by
    intro l1 l2 l2r I15 hB15 N15
    induction N15 using Nat.strongRecOn with
    | _ N15 ih15 =>
      intro hN15 l3 l3r s hv hI
      have hW : C_begin5_15 I15 l1 l2 l3 s Q := hB15 (l3, s) hI
      unfold C_begin5_15 at hW
      refine pq_l (pc' := 16) rfl rfl rfl rfl rfl ?_
      refine pq_l (pc' := 17) rfl rfl rfl rfl rfl ?_
      refine pq_gi (pc' := 20) rfl rfl rfl rfl rfl (fun r1 => ?_)
      refine pq_c_gt (pt := 72) (pc' := 23) rfl rfl rfl (fun c2 => ?_) (fun c2 => ?_)
      · have hW := hW.1 c2
        refine pq_l (pc' := 73) rfl rfl rfl rfl rfl ?_
        refine pq_l (pc' := 74) rfl rfl rfl rfl rfl ?_
        refine pq_gr (pc' := 77) (c := 268) (v := 268) rfl rfl rfl rfl rfl rfl hv ?_
        refine pq_k (pc' := 78) (v := (0, (-1))) rfl rfl rfl (fun _ => rfl) ?_
        refine pq_cVV (pc' := 81) rfl rfl rfl rfl rfl (c_moveBy5 L ys d s hv (-1) (⟨by decide, by decide⟩ : iR (-1)) _ hW) (fun s3 hr => ?_)
        obtain ⟨s3v, hW⟩ := hr
        refine pq_l (pc' := 82) rfl rfl rfl rfl rfl ?_
        refine pq_gr (pc' := 85) (c := 306) (v := 306) rfl rfl rfl rfl rfl rfl s3v ?_
        refine pq_k (pc' := 88) (v := (1, (-1))) rfl rfl rfl (fun _ => rfl) ?_
        refine pq_cVV (pc' := 91) rfl rfl rfl rfl rfl (c_set1 L ys d s3 s3v 306 (⟨by decide, by decide⟩ : nb 306) (-1) (⟨by decide, by decide⟩ : lR (-1)) _ hW) (fun s5 hr => ?_)
        obtain ⟨s5v, hW⟩ := hr
        exact pq_vret rfl ⟨rfl, s5v, hW⟩
      · have hW := hW.2 c2
        refine pq_l (pc' := 24) rfl rfl rfl rfl rfl ?_
        refine pq_gr (pc' := 27) (c := 268) (v := 268) rfl rfl rfl rfl rfl rfl hv ?_
        refine pq_l (pc' := 28) rfl rfl rfl rfl rfl ?_
        refine pq_aa (pc' := 29) (b := 270) (k := 4) (n := 9) (m := 9) rfl rfl rfl rfl rfl hv (fun r7a r7b => ?_)
        refine pq_l (pc' := 30) rfl rfl rfl rfl rfl ?_
        refine pq_gr (pc' := 33) (c := (l1 + 1)) (v := 0) rfl rfl rfl rfl rfl rfl hv ?_
        refine pq_l (pc' := 34) rfl rfl rfl rfl rfl ?_
        refine pq_la (pc' := 35) rfl rfl (fun r8a r8b r8 => ?_)
        have hW := hW ⟨⟨r8a, r8b⟩, r8⟩
        refine pq_cVV (pc' := 38) rfl rfl rfl rfl rfl (c_set1 L ys d s hv (270 + 4 * (l3).toNat) (⟨by omega, by omega⟩ : nb (270 + 4 * (l3).toNat)) (cga s (l1 + 1) l3) r8 _ hW) (fun s9 hr => ?_)
        obtain ⟨s9v, hW⟩ := hr
        refine pq_l (pc' := 39) rfl rfl rfl rfl rfl ?_
        refine pq_gr (pc' := 42) (c := 268) (v := 268) rfl rfl rfl rfl rfl rfl s9v ?_
        refine pq_l (pc' := 43) rfl rfl rfl rfl rfl ?_
        refine pq_aa (pc' := 44) (b := 270) (k := 4) (n := 9) (m := 9) rfl rfl rfl rfl rfl s9v (fun r11a r11b => ?_)
        refine pq_l (pc' := 45) rfl rfl rfl rfl rfl ?_
        have J213 : ∀ v212 : Int, iR v212 → ((C_shiftUp1 (270 + 4 * (l3).toNat) v212 s9 (fun s214 => (I15 ((w32 (l3 + 1)), s214))))) → pq L ys d N15 rm_p_X5_begin (63, [(0, (2, ((267 : Nat) : Int))), (1, (2, ((l1 : Nat) : Int))), (2, (0, l2)), (3, (0, l3))], [(0, v212), (2, (((270 + 4 * (l3).toNat) : Nat) : Int))], s9) (fun r : im_Re => r.1 = none ∧ (jI r.2 ∧ Q r.2)) := by
          intro v212 v212r hW
          refine pq_cVV (pc' := 66) rfl rfl rfl rfl rfl (c_shiftUp1 L ys d s9 s9v (270 + 4 * (l3).toNat) (⟨by omega, by omega⟩ : nb (270 + 4 * (l3).toNat)) v212 v212r _ hW) (fun s214 hr => ?_)
          obtain ⟨s214v, hW⟩ := hr
          refine pq_inc (pc' := 69) rfl rfl rfl rfl ?_
          refine pq_gotoT (pc' := 15) rfl rfl (fun m216 m216l => ?_)
          refine pq_w [(0, (2, ((267 : Nat) : Int))), (1, (2, ((l1 : Nat) : Int))), (2, (0, l2)), (3, (0, (w32 (l3 + 1))))] ⟨rfl, rfl, rfl, rfl, trivial⟩ ?_
          exact ih15 m216 (by omega) (by omega) (w32 (l3 + 1)) (w32_r _) s214 s214v hW
        refine pq_z_ge (pt := 55) (pc' := 48) rfl rfl rfl (fun c12 => ?_) (fun c12 => ?_)
        · refine pq_l (pc' := 56) rfl rfl rfl rfl rfl ?_
          refine pq_l (pc' := 57) rfl rfl rfl rfl rfl ?_
          refine pq_gi (pc' := 60) rfl rfl rfl rfl rfl (fun r13 => ?_)
          refine pq_l (pc' := 61) rfl rfl rfl rfl rfl ?_
          refine pq_sub (pc' := 62) rfl rfl ?_
          refine pq_mul (pc' := 63) rfl rfl ?_
          refine pq_w [(0, (2, ((267 : Nat) : Int))), (1, (2, ((l1 : Nat) : Int))), (2, (0, l2)), (3, (0, l3))] ⟨rfl, rfl, rfl, rfl, trivial⟩ ?_
          exact J213 (w32 (l2 * (w32 ((cgf s9 267 4) - l3)))) (w32_r _) (hW _ (by rw [if_pos c12]))
        · refine pq_l (pc' := 49) rfl rfl rfl rfl rfl ?_
          refine pq_ineg (pc' := 50) rfl rfl ?_
          refine pq_l (pc' := 51) rfl rfl rfl rfl rfl ?_
          refine pq_mul (pc' := 52) rfl rfl ?_
          refine pq_goto (pc' := 63) rfl rfl ?_
          refine pq_w [(0, (2, ((267 : Nat) : Int))), (1, (2, ((l1 : Nat) : Int))), (2, (0, l2)), (3, (0, l3))] ⟨rfl, rfl, rfl, rfl, trivial⟩ ?_
          exact J213 (w32 ((w32 (-l2)) * l3)) (w32_r _) (hW _ (by rw [if_neg (fun z => c12 z)]))
  unfold C_begin5 at hW
  refine pq_l (pc' := 1) rfl rfl rfl rfl rfl ?_
  refine pq_l (pc' := 2) rfl rfl rfl rfl rfl ?_
  refine pq_gi (pc' := 5) rfl rfl rfl rfl rfl (fun r217 => ?_)
  refine pq_pX (pc' := 8) rfl rfl rfl rfl (fun e => absurd e (by decide)) (fun e => absurd e (by decide)) hv (fun s218 s218e s218v => ?_)
  have hW := hW s218 s218e
  refine pq_l (pc' := 9) rfl rfl rfl rfl rfl ?_
  refine pq_l (pc' := 10) rfl rfl rfl rfl rfl ?_
  refine pq_pX (pc' := 13) rfl rfl rfl rfl (fun e => absurd e (by decide)) (fun e => absurd e (by decide)) s218v (fun s219 s219e s219v => ?_)
  have hW := hW s219 s219e
  refine pq_k (pc' := 14) (v := (0, 0)) rfl rfl rfl (fun _ => rfl) ?_
  refine pq_s (pc' := 15) rfl rfl rfl rfl rfl ?_
  refine pq_w [(0, (2, ((267 : Nat) : Int))), (1, (2, ((l1 : Nat) : Int))), (2, (0, l2)), (3, (0, 0))] ⟨rfl, rfl, rfl, rfl, trivial⟩ ?_
  obtain ⟨I9, hI9, hB9⟩ := hW
  exact J15 l1 l2 l2r I9 hB9 N (by omega) 0 (⟨by decide, by decide⟩ : iR 0) s219 s219v hI9
def C_dropZero5_2 (K2 : Int × im_S → Prop) (l1 : Int) (s : im_S) (Q : im_S → Prop) : Prop := (((cgf s 267 4) ≤ l1 → (∀ s4, s4 = cpf s 267 4 (w32 ((cgf s 267 4) - 1)) → (Q s4))) ∧ (¬ ((cgf s 267 4) ≤ l1) → (C_copy1 (270 + 4 * (l1).toNat) (270 + 4 * ((w32 (l1 + 1))).toNat) s (fun s7 => (K2 ((w32 (l1 + 1)), s7))))))
def C_dropZero5 (s : im_S) (Q : im_S → Prop) : Prop := (ploop (fun (K : Int × im_S → Prop) (a : Int × im_S) => C_dropZero5_2 K a.1 a.2 Q) (0, s))
set_option maxRecDepth 16384 in
theorem c_dropZero5 (L : Nat) (ys : Nat → Int32) (d : Nat) (s : im_S) (hv : jI s) (Q : im_S → Prop) (hW : C_dropZero5 s Q) : pcV L ys d 162 [(2, ((267 : Nat) : Int))] s (fun s9 => jI s9 ∧ Q s9) := by
  intro res hres
  refine pq_start (M := rm_p_X5_dropZero) (Q := (fun r : im_Re => r.1 = none ∧ (jI r.2 ∧ Q r.2))) om_X5_dropZero (fun d N => ?_) res hres
  refine pq_w [(0, (2, ((267 : Nat) : Int)))] ⟨rfl, trivial⟩ ?_
  have J2 : ∀ (I2 : Int × im_S → Prop) (hB2 : ∀ a : Int × im_S, I2 a → C_dropZero5_2 I2 a.1 a.2 Q), ∀ N2 : Nat, N2 ≤ N → ∀ (l1 : Int) (l1r : iR l1) (s : im_S) (hv : jI s), I2 (l1, s) → pq L ys d N2 rm_p_X5_dropZero (2, [(0, (2, ((267 : Nat) : Int))), (1, (0, l1))], [], s) (fun r : im_Re => r.1 = none ∧ (jI r.2 ∧ Q r.2)) := by
    intro I2 hB2 N2
    induction N2 using Nat.strongRecOn with
    | _ N2 ih2 =>
      intro hN2 l1 l1r s hv hI
      have hW : C_dropZero5_2 I2 l1 s Q := hB2 (l1, s) hI
      unfold C_dropZero5_2 at hW
      refine pq_l (pc' := 3) rfl rfl rfl rfl rfl ?_
      refine pq_l (pc' := 4) rfl rfl rfl rfl rfl ?_
      refine pq_gi (pc' := 7) rfl rfl rfl rfl rfl (fun r1 => ?_)
      refine pq_c_ge (pt := 33) (pc' := 10) rfl rfl rfl (fun c2 => ?_) (fun c2 => ?_)
      · have hW := hW.1 c2
        refine pq_l (pc' := 34) rfl rfl rfl rfl rfl ?_
        refine pq_x (pc' := 35) rfl rfl rfl (fun _ => rfl) ?_
        refine pq_gi (pc' := 38) rfl rfl rfl rfl rfl (fun r3 => ?_)
        refine pq_k (pc' := 39) (v := (0, 1)) rfl rfl rfl (fun _ => rfl) ?_
        refine pq_sub (pc' := 40) rfl rfl ?_
        refine pq_pX (pc' := 43) rfl rfl rfl rfl (fun e => absurd e (by decide)) (fun e => absurd e (by decide)) hv (fun s4 s4e s4v => ?_)
        have hW := hW s4 s4e
        exact pq_vret rfl ⟨rfl, s4v, hW⟩
      · have hW := hW.2 c2
        refine pq_l (pc' := 11) rfl rfl rfl rfl rfl ?_
        refine pq_gr (pc' := 14) (c := 268) (v := 268) rfl rfl rfl rfl rfl rfl hv ?_
        refine pq_l (pc' := 15) rfl rfl rfl rfl rfl ?_
        refine pq_aa (pc' := 16) (b := 270) (k := 4) (n := 9) (m := 9) rfl rfl rfl rfl rfl hv (fun r5a r5b => ?_)
        refine pq_l (pc' := 17) rfl rfl rfl rfl rfl ?_
        refine pq_gr (pc' := 20) (c := 268) (v := 268) rfl rfl rfl rfl rfl rfl hv ?_
        refine pq_l (pc' := 21) rfl rfl rfl rfl rfl ?_
        refine pq_k (pc' := 22) (v := (0, 1)) rfl rfl rfl (fun _ => rfl) ?_
        refine pq_add (pc' := 23) rfl rfl ?_
        refine pq_aa (pc' := 24) (b := 270) (k := 4) (n := 9) (m := 9) rfl rfl rfl rfl rfl hv (fun r6a r6b => ?_)
        refine pq_cVV (pc' := 27) rfl rfl rfl rfl rfl (c_copy1 L ys d s hv (270 + 4 * (l1).toNat) (⟨by omega, by omega⟩ : nb (270 + 4 * (l1).toNat)) (270 + 4 * ((w32 (l1 + 1))).toNat) _ hW) (fun s7 hr => ?_)
        obtain ⟨s7v, hW⟩ := hr
        refine pq_inc (pc' := 30) rfl rfl rfl rfl ?_
        refine pq_gotoT (pc' := 2) rfl rfl (fun m9 m9l => ?_)
        refine pq_w [(0, (2, ((267 : Nat) : Int))), (1, (0, (w32 (l1 + 1))))] ⟨rfl, rfl, trivial⟩ ?_
        exact ih2 m9 (by omega) (by omega) (w32 (l1 + 1)) (w32_r _) s7 s7v hW
  unfold C_dropZero5 at hW
  refine pq_k (pc' := 1) (v := (0, 0)) rfl rfl rfl (fun _ => rfl) ?_
  refine pq_s (pc' := 2) rfl rfl rfl rfl rfl ?_
  refine pq_w [(0, (2, ((267 : Nat) : Int))), (1, (0, 0))] ⟨rfl, rfl, trivial⟩ ?_
  obtain ⟨I9, hI9, hB9⟩ := hW
  exact J2 I9 hB9 N (by omega) 0 (⟨by decide, by decide⟩ : iR 0) s hv hI9
def C_mixed5_7 (K7 : Int × Int × Int × im_S → Prop) (l2 : Int) (l3 : Int) (l4 : Int) (s : im_S) (Q : Int → im_S → Prop) : Prop := (((cgf s 267 4) < l4 → (∀ v203 : Int, v203 = (if l2 = 0 then 0 else (if l3 = 0 then 0 else 1)) → (Q v203 s))) ∧ (¬ ((cgf s 267 4) < l4) → (∀ v405 : Int, v405 = (if ¬ (l2 = 0) then 1 else (if (cgf s (270 + 4 * (l4).toNat) 2) ≤ 0 then 0 else 1)) → (∀ v607 : Int, v607 = (if ¬ (l3 = 0) then 1 else (if 0 ≤ (cgf s (270 + 4 * (l4).toNat) 2) then 0 else 1)) → (K7 (v405, v607, (w32 (l4 + 1)), s))))))
def C_mixed5 (s : im_S) (Q : Int → im_S → Prop) : Prop := (ploop (fun (K : Int × Int × Int × im_S → Prop) (a : Int × Int × Int × im_S) => C_mixed5_7 K a.1 a.2.1 a.2.2.1 a.2.2.2 Q) (0, 0, 0, s))
set_option maxRecDepth 16384 in
theorem c_mixed5 (L : Nat) (ys : Nat → Int32) (d : Nat) (s : im_S) (hv : jI s) (Q : Int → im_S → Prop) (hW : C_mixed5 s Q) : pcI L ys 0 d 165 [(2, ((267 : Nat) : Int)), (2, ((268 : Nat) : Int))] s (fun z9 s9 => jI s9 ∧ iR z9 ∧ Q z9 s9) := by
  intro res hres
  refine pq_start (M := rm_p_X5_mixed) (Q := (fun r : im_Re => ∃ z, r.1 = some (0, z) ∧ (jI r.2 ∧ iR z ∧ Q z r.2))) om_X5_mixed (fun d N => ?_) res hres
  refine pq_w [(0, (2, ((267 : Nat) : Int))), (1, (2, ((268 : Nat) : Int)))] ⟨rfl, rfl, trivial⟩ ?_
  have J7 : ∀ (I7 : Int × Int × Int × im_S → Prop) (hB7 : ∀ a : Int × Int × Int × im_S, I7 a → C_mixed5_7 I7 a.1 a.2.1 a.2.2.1 a.2.2.2 Q), ∀ N7 : Nat, N7 ≤ N → ∀ (l2 : Int) (l2r : iR l2) (l3 : Int) (l3r : iR l3) (l4 : Int) (l4r : iR l4) (s : im_S) (hv : jI s), I7 (l2, l3, l4, s) → pq L ys d N7 rm_p_X5_mixed (7, [(0, (2, ((267 : Nat) : Int))), (1, (2, ((268 : Nat) : Int))), (2, (0, l2)), (3, (0, l3)), (4, (0, l4))], [], s) (fun r : im_Re => ∃ z, r.1 = some (0, z) ∧ (jI r.2 ∧ iR z ∧ Q z r.2)) := by
    intro I7 hB7 N7
    induction N7 using Nat.strongRecOn with
    | _ N7 ih7 =>
      intro hN7 l2 l2r l3 l3r l4 l4r s hv hI
      have hW : C_mixed5_7 I7 l2 l3 l4 s Q := hB7 (l2, l3, l4, s) hI
      unfold C_mixed5_7 at hW
      refine pq_l (pc' := 9) rfl rfl rfl rfl rfl ?_
      refine pq_l (pc' := 10) rfl rfl rfl rfl rfl ?_
      refine pq_gi (pc' := 13) rfl rfl rfl rfl rfl (fun r1 => ?_)
      refine pq_c_gt (pt := 62) (pc' := 16) rfl rfl rfl (fun c2 => ?_) (fun c2 => ?_)
      · have hW := hW.1 c2
        refine pq_l (pc' := 63) rfl rfl rfl rfl rfl ?_
        have J204 : ∀ v203 : Int, iR v203 → ((Q v203 s)) → pq L ys d N7 rm_p_X5_mixed (75, [], [(0, v203)], s) (fun r : im_Re => ∃ z, r.1 = some (0, z) ∧ (jI r.2 ∧ iR z ∧ Q z r.2)) := by
          intro v203 v203r hW
          exact pq_iret rfl ⟨_, rfl, hv, v203r, hW⟩
        refine pq_z_eq (pt := 74) (pc' := 66) rfl rfl rfl (fun c3 => ?_) (fun c3 => ?_)
        · refine pq_k (pc' := 75) (v := (0, 0)) rfl rfl rfl (fun _ => rfl) ?_
          refine pq_w [] trivial ?_
          exact J204 0 (⟨by decide, by decide⟩ : iR 0) (hW _ (by rw [if_pos c3]))
        · refine pq_l (pc' := 67) rfl rfl rfl rfl rfl ?_
          refine pq_z_eq (pt := 74) (pc' := 70) rfl rfl rfl (fun c4 => ?_) (fun c4 => ?_)
          · refine pq_k (pc' := 75) (v := (0, 0)) rfl rfl rfl (fun _ => rfl) ?_
            refine pq_w [] trivial ?_
            exact J204 0 (⟨by decide, by decide⟩ : iR 0) (hW _ (by rw [if_neg (fun z => c3 z), if_pos c4]))
          · refine pq_k (pc' := 71) (v := (0, 1)) rfl rfl rfl (fun _ => rfl) ?_
            refine pq_goto (pc' := 75) rfl rfl ?_
            refine pq_w [] trivial ?_
            exact J204 1 (⟨by decide, by decide⟩ : iR 1) (hW _ (by rw [if_neg (fun z => c3 z), if_neg (fun z => c4 z)]))
      · have hW := hW.2 c2
        refine pq_l (pc' := 17) rfl rfl rfl rfl rfl ?_
        have J406 : ∀ v405 : Int, iR v405 → ((∀ v607 : Int, v607 = (if ¬ (l3 = 0) then 1 else (if 0 ≤ (cgf s (270 + 4 * (l4).toNat) 2) then 0 else 1)) → (I7 (v405, v607, (w32 (l4 + 1)), s)))) → pq L ys d N7 rm_p_X5_mixed (35, [(0, (2, ((267 : Nat) : Int))), (1, (2, ((268 : Nat) : Int))), (3, (0, l3)), (4, (0, l4))], [(0, v405)], s) (fun r : im_Re => ∃ z, r.1 = some (0, z) ∧ (jI r.2 ∧ iR z ∧ Q z r.2)) := by
          intro v405 v405r hW
          refine pq_s (pc' := 36) rfl rfl rfl rfl rfl ?_
          refine pq_l (pc' := 37) rfl rfl rfl rfl rfl ?_
          have J608 : ∀ v607 : Int, iR v607 → ((I7 (v405, v607, (w32 (l4 + 1)), s))) → pq L ys d N7 rm_p_X5_mixed (55, [(0, (2, ((267 : Nat) : Int))), (1, (2, ((268 : Nat) : Int))), (2, (0, v405)), (4, (0, l4))], [(0, v607)], s) (fun r : im_Re => ∃ z, r.1 = some (0, z) ∧ (jI r.2 ∧ iR z ∧ Q z r.2)) := by
            intro v607 v607r hW
            refine pq_s (pc' := 56) rfl rfl rfl rfl rfl ?_
            refine pq_inc (pc' := 59) rfl rfl rfl rfl ?_
            refine pq_gotoT (pc' := 7) rfl rfl (fun m609 m609l => ?_)
            refine pq_w [(0, (2, ((267 : Nat) : Int))), (1, (2, ((268 : Nat) : Int))), (2, (0, v405)), (3, (0, v607)), (4, (0, (w32 (l4 + 1))))] ⟨rfl, rfl, rfl, rfl, rfl, trivial⟩ ?_
            exact ih7 m609 (by omega) (by omega) v405 v405r v607 v607r (w32 (l4 + 1)) (w32_r _) s hv hW
          refine pq_z_ne (pt := 50) (pc' := 40) rfl rfl rfl (fun c407 => ?_) (fun c407 => ?_)
          · refine pq_k (pc' := 51) (v := (0, 1)) rfl rfl rfl (fun _ => rfl) ?_
            refine pq_goto (pc' := 55) rfl rfl ?_
            refine pq_w [(0, (2, ((267 : Nat) : Int))), (1, (2, ((268 : Nat) : Int))), (2, (0, v405)), (4, (0, l4))] ⟨rfl, rfl, rfl, rfl, trivial⟩ ?_
            exact J608 1 (⟨by decide, by decide⟩ : iR 1) (hW _ (by rw [if_pos c407]))
          · refine pq_l (pc' := 41) rfl rfl rfl rfl rfl ?_
            refine pq_l (pc' := 43) rfl rfl rfl rfl rfl ?_
            refine pq_aa (pc' := 44) (b := 270) (k := 4) (n := 9) (m := 9) rfl rfl rfl rfl rfl hv (fun r408a r408b => ?_)
            refine pq_gi (pc' := 47) rfl rfl rfl rfl rfl (fun r409 => ?_)
            refine pq_z_ge (pt := 54) (pc' := 50) rfl rfl rfl (fun c410 => ?_) (fun c410 => ?_)
            · refine pq_k (pc' := 55) (v := (0, 0)) rfl rfl rfl (fun _ => rfl) ?_
              refine pq_w [(0, (2, ((267 : Nat) : Int))), (1, (2, ((268 : Nat) : Int))), (2, (0, v405)), (4, (0, l4))] ⟨rfl, rfl, rfl, rfl, trivial⟩ ?_
              exact J608 0 (⟨by decide, by decide⟩ : iR 0) (hW _ (by rw [if_neg (by omega), if_pos c410]))
            · refine pq_k (pc' := 51) (v := (0, 1)) rfl rfl rfl (fun _ => rfl) ?_
              refine pq_goto (pc' := 55) rfl rfl ?_
              refine pq_w [(0, (2, ((267 : Nat) : Int))), (1, (2, ((268 : Nat) : Int))), (2, (0, v405)), (4, (0, l4))] ⟨rfl, rfl, rfl, rfl, trivial⟩ ?_
              exact J608 1 (⟨by decide, by decide⟩ : iR 1) (hW _ (by rw [if_neg (by omega), if_neg (fun z => c410 z)]))
        refine pq_z_ne (pt := 30) (pc' := 20) rfl rfl rfl (fun c205 => ?_) (fun c205 => ?_)
        · refine pq_k (pc' := 31) (v := (0, 1)) rfl rfl rfl (fun _ => rfl) ?_
          refine pq_goto (pc' := 35) rfl rfl ?_
          refine pq_w [(0, (2, ((267 : Nat) : Int))), (1, (2, ((268 : Nat) : Int))), (3, (0, l3)), (4, (0, l4))] ⟨rfl, rfl, rfl, rfl, trivial⟩ ?_
          exact J406 1 (⟨by decide, by decide⟩ : iR 1) (hW _ (by rw [if_pos c205]))
        · refine pq_l (pc' := 21) rfl rfl rfl rfl rfl ?_
          refine pq_l (pc' := 23) rfl rfl rfl rfl rfl ?_
          refine pq_aa (pc' := 24) (b := 270) (k := 4) (n := 9) (m := 9) rfl rfl rfl rfl rfl hv (fun r206a r206b => ?_)
          refine pq_gi (pc' := 27) rfl rfl rfl rfl rfl (fun r207 => ?_)
          refine pq_z_le (pt := 34) (pc' := 30) rfl rfl rfl (fun c208 => ?_) (fun c208 => ?_)
          · refine pq_k (pc' := 35) (v := (0, 0)) rfl rfl rfl (fun _ => rfl) ?_
            refine pq_w [(0, (2, ((267 : Nat) : Int))), (1, (2, ((268 : Nat) : Int))), (3, (0, l3)), (4, (0, l4))] ⟨rfl, rfl, rfl, rfl, trivial⟩ ?_
            exact J406 0 (⟨by decide, by decide⟩ : iR 0) (hW _ (by rw [if_neg (by omega), if_pos c208]))
          · refine pq_k (pc' := 31) (v := (0, 1)) rfl rfl rfl (fun _ => rfl) ?_
            refine pq_goto (pc' := 35) rfl rfl ?_
            refine pq_w [(0, (2, ((267 : Nat) : Int))), (1, (2, ((268 : Nat) : Int))), (3, (0, l3)), (4, (0, l4))] ⟨rfl, rfl, rfl, rfl, trivial⟩ ?_
            exact J406 1 (⟨by decide, by decide⟩ : iR 1) (hW _ (by rw [if_neg (by omega), if_neg (fun z => c208 z)]))
  unfold C_mixed5 at hW
  refine pq_k (pc' := 1) (v := (0, 0)) rfl rfl rfl (fun _ => rfl) ?_
  refine pq_s (pc' := 2) rfl rfl rfl rfl rfl ?_
  refine pq_k (pc' := 3) (v := (0, 0)) rfl rfl rfl (fun _ => rfl) ?_
  refine pq_s (pc' := 4) rfl rfl rfl rfl rfl ?_
  refine pq_k (pc' := 5) (v := (0, 0)) rfl rfl rfl (fun _ => rfl) ?_
  refine pq_s (pc' := 7) rfl rfl rfl rfl rfl ?_
  refine pq_w [(0, (2, ((267 : Nat) : Int))), (1, (2, ((268 : Nat) : Int))), (2, (0, 0)), (3, (0, 0)), (4, (0, 0))] ⟨rfl, rfl, rfl, rfl, rfl, trivial⟩ ?_
  obtain ⟨I9, hI9, hB9⟩ := hW
  exact J7 I9 hB9 N (by omega) 0 (⟨by decide, by decide⟩ : iR 0) 0 (⟨by decide, by decide⟩ : iR 0) 0 (⟨by decide, by decide⟩ : iR 0) s hv hI9
def C_changes5_152 (l1 : Int) (s : im_S) (Q : Int → im_S → Prop) : Prop := (Q l1 s)
def C_changes5_76 (K55 : Int × Int × Int × im_S → Prop) (K76 : Int × im_S → Prop) (l1 : Int) (l2 : Int) (l3 : Int) (l4 : Int) (s : im_S) (Q : Int → im_S → Prop) : Prop := ((l4 < l3 → (∀ v204 : Int, v204 = (if 0 ≤ (w32 ((cgf s (272 + 4 * (l3).toNat) 2) * l2)) then 0 else 1) → (∀ v406 : Int, v406 = (if (cgf s (272 + 4 * (l3).toNat) 2) = 0 then l2 else (cgf s (272 + 4 * (l3).toNat) 2)) → (K55 ((w32 (l1 + v204)), v406, (w32 (l3 + 1)), s))))) ∧ (¬ (l4 < l3) → (C_add1 (272 + 4 * (l4).toNat) (272 + 4 * ((w32 (l4 + 1))).toNat) 1 s (fun s411 => (K76 ((w32 (l4 + (-1))), s411))))))
def C_changes5_55 (K55 : Int × Int × Int × im_S → Prop) (l1 : Int) (l2 : Int) (l3 : Int) (s : im_S) (Q : Int → im_S → Prop) : Prop := (((cgf s 267 4) < l3 → (C_changes5_152 l1 s Q)) ∧ (¬ ((cgf s 267 4) < l3) → ((2 ≤ l1 → (C_changes5_152 l1 s Q)) ∧ (¬ (2 ≤ l1) → (ploop (fun (K : Int × im_S → Prop) (a : Int × im_S) => C_changes5_76 K55 K l1 l2 l3 a.1 a.2 Q) ((w32 ((cgf s 267 4) - 1)), s))))))
def C_changes5_15 (K15 : Int × im_S → Prop) (l1 : Int) (s : im_S) (Q : Int → im_S → Prop) : Prop := (((cgf s 267 4) < l1 → (ploop (fun (K : Int × Int × Int × im_S → Prop) (a : Int × Int × Int × im_S) => C_changes5_55 K a.1 a.2.1 a.2.2.1 a.2.2.2 Q) (0, 0, 0, s))) ∧ (¬ ((cgf s 267 4) < l1) → (C_copy1 (272 + 4 * (l1).toNat) (270 + 4 * ((w32 ((cgf s 267 4) - l1))).toNat) s (fun s423 => (K15 ((w32 (l1 + 1)), s423))))))
def C_changes5 (s : im_S) (Q : Int → im_S → Prop) : Prop := (C_mixed5 s (fun z427 s426 => ((¬ (z427 = 0) → (ploop (fun (K : Int × im_S → Prop) (a : Int × im_S) => C_changes5_15 K a.1 a.2 Q) (0, s426))) ∧ (z427 = 0 → (Q 0 s426)))))
set_option maxRecDepth 16384 in
theorem c_changes5 (L : Nat) (ys : Nat → Int32) (d : Nat) (s : im_S) (hv : jI s) (Q : Int → im_S → Prop) (hW : C_changes5 s Q) : pcI L ys 0 d 161 [(2, ((267 : Nat) : Int))] s (fun z9 s9 => jI s9 ∧ iR z9 ∧ Q z9 s9) := by
  intro res hres
  refine pq_start (M := rm_p_X5_changes) (Q := (fun r : im_Re => ∃ z, r.1 = some (0, z) ∧ (jI r.2 ∧ iR z ∧ Q z r.2))) om_X5_changes (fun d N => ?_) res hres
  refine pq_w [(0, (2, ((267 : Nat) : Int)))] ⟨rfl, trivial⟩ ?_
  have J152 : ∀ N152 : Nat, N152 ≤ N → ∀ (l1 : Int) (l1r : iR l1) (s : im_S) (hv : jI s), C_changes5_152 l1 s Q → pq L ys d N152 rm_p_X5_changes (152, [(1, (0, l1))], [], s) (fun r : im_Re => ∃ z, r.1 = some (0, z) ∧ (jI r.2 ∧ iR z ∧ Q z r.2)) := by
    intro N152 hN152 l1 l1r s hv hW
    unfold C_changes5_152 at hW
    refine pq_l (pc' := 153) rfl rfl rfl rfl rfl ?_
    exact pq_iret rfl ⟨_, rfl, hv, l1r, hW⟩
  have J55 : ∀ (I55 : Int × Int × Int × im_S → Prop) (hB55 : ∀ a : Int × Int × Int × im_S, I55 a → C_changes5_55 I55 a.1 a.2.1 a.2.2.1 a.2.2.2 Q), ∀ N55 : Nat, N55 ≤ N → ∀ (l1 : Int) (l1r : iR l1) (l2 : Int) (l2r : iR l2) (l3 : Int) (l3r : iR l3) (s : im_S) (hv : jI s), I55 (l1, l2, l3, s) → pq L ys d N55 rm_p_X5_changes (55, [(0, (2, ((267 : Nat) : Int))), (1, (0, l1)), (2, (0, l2)), (3, (0, l3))], [], s) (fun r : im_Re => ∃ z, r.1 = some (0, z) ∧ (jI r.2 ∧ iR z ∧ Q z r.2)) := by
    intro I55 hB55 N55
    induction N55 using Nat.strongRecOn with
    | _ N55 ih55 =>
      intro hN55 l1 l1r l2 l2r l3 l3r s hv hI
      have hW : C_changes5_55 I55 l1 l2 l3 s Q := hB55 (l1, l2, l3, s) hI
      have J76 : ∀ (l1 : Int) (l1r : iR l1) (l2 : Int) (l2r : iR l2) (l3 : Int) (l3r : iR l3) (I76 : Int × im_S → Prop) (hB76 : ∀ a : Int × im_S, I76 a → C_changes5_76 I55 I76 l1 l2 l3 a.1 a.2 Q), ∀ N76 : Nat, N76 ≤ N55 → ∀ (l4 : Int) (l4r : iR l4) (s : im_S) (hv : jI s), I76 (l4, s) → pq L ys d N76 rm_p_X5_changes (76, [(0, (2, ((267 : Nat) : Int))), (1, (0, l1)), (2, (0, l2)), (3, (0, l3)), (4, (0, l4))], [], s) (fun r : im_Re => ∃ z, r.1 = some (0, z) ∧ (jI r.2 ∧ iR z ∧ Q z r.2)) := by
        intro l1 l1r l2 l2r l3 l3r I76 hB76 N76
        induction N76 using Nat.strongRecOn with
        | _ N76 ih76 =>
          intro hN76 l4 l4r s hv hI
          have hW : C_changes5_76 I55 I76 l1 l2 l3 l4 s Q := hB76 (l4, s) hI
          unfold C_changes5_76 at hW
          refine pq_l (pc' := 78) rfl rfl rfl rfl rfl ?_
          refine pq_l (pc' := 79) rfl rfl rfl rfl rfl ?_
          refine pq_c_lt (pt := 108) (pc' := 82) rfl rfl rfl (fun c1 => ?_) (fun c1 => ?_)
          · have hW := hW.1 c1
            refine pq_l (pc' := 109) rfl rfl rfl rfl rfl ?_
            refine pq_gr (pc' := 112) (c := 269) (v := 269) rfl rfl rfl rfl rfl rfl hv ?_
            refine pq_l (pc' := 113) rfl rfl rfl rfl rfl ?_
            refine pq_aa (pc' := 114) (b := 272) (k := 4) (n := 9) (m := 9) rfl rfl rfl rfl rfl hv (fun r2a r2b => ?_)
            refine pq_gi (pc' := 117) rfl rfl rfl rfl rfl (fun r3 => ?_)
            refine pq_s (pc' := 119) rfl rfl rfl rfl rfl ?_
            refine pq_l (pc' := 120) rfl rfl rfl rfl rfl ?_
            refine pq_l (pc' := 122) rfl rfl rfl rfl rfl ?_
            refine pq_l (pc' := 123) rfl rfl rfl rfl rfl ?_
            refine pq_mul (pc' := 124) rfl rfl ?_
            have J205 : ∀ v204 : Int, iR v204 → ((∀ v406 : Int, v406 = (if (cgf s (272 + 4 * (l3).toNat) 2) = 0 then l2 else (cgf s (272 + 4 * (l3).toNat) 2)) → (I55 ((w32 (l1 + v204)), v406, (w32 (l3 + 1)), s)))) → pq L ys d N76 rm_p_X5_changes (132, [(0, (2, ((267 : Nat) : Int))), (2, (0, l2)), (3, (0, l3)), (4, (0, (cgf s (272 + 4 * (l3).toNat) 2)))], [(0, v204), (0, l1)], s) (fun r : im_Re => ∃ z, r.1 = some (0, z) ∧ (jI r.2 ∧ iR z ∧ Q z r.2)) := by
              intro v204 v204r hW
              refine pq_add (pc' := 133) rfl rfl ?_
              refine pq_s (pc' := 134) rfl rfl rfl rfl rfl ?_
              refine pq_l (pc' := 136) rfl rfl rfl rfl rfl ?_
              have J407 : ∀ v406 : Int, iR v406 → ((I55 ((w32 (l1 + v204)), v406, (w32 (l3 + 1)), s))) → pq L ys d N76 rm_p_X5_changes (145, [(0, (2, ((267 : Nat) : Int))), (1, (0, (w32 (l1 + v204)))), (3, (0, l3))], [(0, v406)], s) (fun r : im_Re => ∃ z, r.1 = some (0, z) ∧ (jI r.2 ∧ iR z ∧ Q z r.2)) := by
                intro v406 v406r hW
                refine pq_s (pc' := 146) rfl rfl rfl rfl rfl ?_
                refine pq_inc (pc' := 149) rfl rfl rfl rfl ?_
                refine pq_gotoT (pc' := 55) rfl rfl (fun m408 m408l => ?_)
                refine pq_w [(0, (2, ((267 : Nat) : Int))), (1, (0, (w32 (l1 + v204)))), (2, (0, v406)), (3, (0, (w32 (l3 + 1))))] ⟨rfl, rfl, rfl, rfl, trivial⟩ ?_
                exact ih55 m408 (by omega) (by omega) (w32 (l1 + v204)) (w32_r _) v406 v406r (w32 (l3 + 1)) (w32_r _) s hv hW
              refine pq_z_eq (pt := 144) (pc' := 139) rfl rfl rfl (fun c206 => ?_) (fun c206 => ?_)
              · refine pq_l (pc' := 145) rfl rfl rfl rfl rfl ?_
                refine pq_w [(0, (2, ((267 : Nat) : Int))), (1, (0, (w32 (l1 + v204)))), (3, (0, l3))] ⟨rfl, rfl, rfl, trivial⟩ ?_
                exact J407 l2 l2r (hW _ (by rw [if_pos c206]))
              · refine pq_l (pc' := 141) rfl rfl rfl rfl rfl ?_
                refine pq_goto (pc' := 145) rfl rfl ?_
                refine pq_w [(0, (2, ((267 : Nat) : Int))), (1, (0, (w32 (l1 + v204)))), (3, (0, l3))] ⟨rfl, rfl, rfl, trivial⟩ ?_
                exact J407 (cgf s (272 + 4 * (l3).toNat) 2) r3 (hW _ (by rw [if_neg (fun z => c206 z)]))
            refine pq_z_ge (pt := 131) (pc' := 127) rfl rfl rfl (fun c4 => ?_) (fun c4 => ?_)
            · refine pq_k (pc' := 132) (v := (0, 0)) rfl rfl rfl (fun _ => rfl) ?_
              refine pq_w [(0, (2, ((267 : Nat) : Int))), (2, (0, l2)), (3, (0, l3)), (4, (0, (cgf s (272 + 4 * (l3).toNat) 2)))] ⟨rfl, rfl, rfl, rfl, trivial⟩ ?_
              exact J205 0 (⟨by decide, by decide⟩ : iR 0) (hW _ (by rw [if_pos c4]))
            · refine pq_k (pc' := 128) (v := (0, 1)) rfl rfl rfl (fun _ => rfl) ?_
              refine pq_goto (pc' := 132) rfl rfl ?_
              refine pq_w [(0, (2, ((267 : Nat) : Int))), (2, (0, l2)), (3, (0, l3)), (4, (0, (cgf s (272 + 4 * (l3).toNat) 2)))] ⟨rfl, rfl, rfl, rfl, trivial⟩ ?_
              exact J205 1 (⟨by decide, by decide⟩ : iR 1) (hW _ (by rw [if_neg (fun z => c4 z)]))
          · have hW := hW.2 c1
            refine pq_l (pc' := 83) rfl rfl rfl rfl rfl ?_
            refine pq_gr (pc' := 86) (c := 269) (v := 269) rfl rfl rfl rfl rfl rfl hv ?_
            refine pq_l (pc' := 88) rfl rfl rfl rfl rfl ?_
            refine pq_aa (pc' := 89) (b := 272) (k := 4) (n := 9) (m := 9) rfl rfl rfl rfl rfl hv (fun r409a r409b => ?_)
            refine pq_l (pc' := 90) rfl rfl rfl rfl rfl ?_
            refine pq_gr (pc' := 93) (c := 269) (v := 269) rfl rfl rfl rfl rfl rfl hv ?_
            refine pq_l (pc' := 95) rfl rfl rfl rfl rfl ?_
            refine pq_k (pc' := 96) (v := (0, 1)) rfl rfl rfl (fun _ => rfl) ?_
            refine pq_add (pc' := 97) rfl rfl ?_
            refine pq_aa (pc' := 98) (b := 272) (k := 4) (n := 9) (m := 9) rfl rfl rfl rfl rfl hv (fun r410a r410b => ?_)
            refine pq_k (pc' := 99) (v := (0, 1)) rfl rfl rfl (fun _ => rfl) ?_
            refine pq_cVV (pc' := 102) rfl rfl rfl rfl rfl (c_add1 L ys d s hv (272 + 4 * (l4).toNat) (⟨by omega, by omega⟩ : nb (272 + 4 * (l4).toNat)) (272 + 4 * ((w32 (l4 + 1))).toNat) 1 (⟨by decide, by decide⟩ : iR 1) _ hW) (fun s411 hr => ?_)
            obtain ⟨s411v, hW⟩ := hr
            refine pq_inc (pc' := 105) rfl rfl rfl rfl ?_
            refine pq_gotoT (pc' := 76) rfl rfl (fun m413 m413l => ?_)
            refine pq_w [(0, (2, ((267 : Nat) : Int))), (1, (0, l1)), (2, (0, l2)), (3, (0, l3)), (4, (0, (w32 (l4 + (-1)))))] ⟨rfl, rfl, rfl, rfl, rfl, trivial⟩ ?_
            exact ih76 m413 (by omega) (by omega) (w32 (l4 + (-1))) (w32_r _) s411 s411v hW
      unfold C_changes5_55 at hW
      refine pq_l (pc' := 56) rfl rfl rfl rfl rfl ?_
      refine pq_l (pc' := 57) rfl rfl rfl rfl rfl ?_
      refine pq_gi (pc' := 60) rfl rfl rfl rfl rfl (fun r414 => ?_)
      refine pq_c_gt (pt := 152) (pc' := 63) rfl rfl rfl (fun c415 => ?_) (fun c415 => ?_)
      · have hW := hW.1 c415
        refine pq_w [(1, (0, l1))] ⟨rfl, trivial⟩ ?_
        exact J152 N55 (by omega) l1 l1r s hv hW
      · have hW := hW.2 c415
        refine pq_l (pc' := 64) rfl rfl rfl rfl rfl ?_
        refine pq_k (pc' := 65) (v := (0, 2)) rfl rfl rfl (fun _ => rfl) ?_
        refine pq_c_ge (pt := 152) (pc' := 68) rfl rfl rfl (fun c416 => ?_) (fun c416 => ?_)
        · have hW := hW.1 c416
          refine pq_w [(1, (0, l1))] ⟨rfl, trivial⟩ ?_
          exact J152 N55 (by omega) l1 l1r s hv hW
        · have hW := hW.2 c416
          refine pq_l (pc' := 69) rfl rfl rfl rfl rfl ?_
          refine pq_gi (pc' := 72) rfl rfl rfl rfl rfl (fun r417 => ?_)
          refine pq_k (pc' := 73) (v := (0, 1)) rfl rfl rfl (fun _ => rfl) ?_
          refine pq_sub (pc' := 74) rfl rfl ?_
          refine pq_s (pc' := 76) rfl rfl rfl rfl rfl ?_
          refine pq_w [(0, (2, ((267 : Nat) : Int))), (1, (0, l1)), (2, (0, l2)), (3, (0, l3)), (4, (0, (w32 ((cgf s 267 4) - 1))))] ⟨rfl, rfl, rfl, rfl, rfl, trivial⟩ ?_
          obtain ⟨I9, hI9, hB9⟩ := hW
          exact J76 l1 l1r l2 l2r l3 l3r I9 hB9 N55 (by omega) (w32 ((cgf s 267 4) - 1)) (w32_r _) s hv hI9
  have J15 : ∀ (I15 : Int × im_S → Prop) (hB15 : ∀ a : Int × im_S, I15 a → C_changes5_15 I15 a.1 a.2 Q), ∀ N15 : Nat, N15 ≤ N → ∀ (l1 : Int) (l1r : iR l1) (s : im_S) (hv : jI s), I15 (l1, s) → pq L ys d N15 rm_p_X5_changes (15, [(0, (2, ((267 : Nat) : Int))), (1, (0, l1))], [], s) (fun r : im_Re => ∃ z, r.1 = some (0, z) ∧ (jI r.2 ∧ iR z ∧ Q z r.2)) := by
    intro I15 hB15 N15
    induction N15 using Nat.strongRecOn with
    | _ N15 ih15 =>
      intro hN15 l1 l1r s hv hI
      have hW : C_changes5_15 I15 l1 s Q := hB15 (l1, s) hI
      unfold C_changes5_15 at hW
      refine pq_l (pc' := 16) rfl rfl rfl rfl rfl ?_
      refine pq_l (pc' := 17) rfl rfl rfl rfl rfl ?_
      refine pq_gi (pc' := 20) rfl rfl rfl rfl rfl (fun r418 => ?_)
      refine pq_c_gt (pt := 49) (pc' := 23) rfl rfl rfl (fun c419 => ?_) (fun c419 => ?_)
      · have hW := hW.1 c419
        refine pq_k (pc' := 50) (v := (0, 0)) rfl rfl rfl (fun _ => rfl) ?_
        refine pq_s (pc' := 51) rfl rfl rfl rfl rfl ?_
        refine pq_k (pc' := 52) (v := (0, 0)) rfl rfl rfl (fun _ => rfl) ?_
        refine pq_s (pc' := 53) rfl rfl rfl rfl rfl ?_
        refine pq_k (pc' := 54) (v := (0, 0)) rfl rfl rfl (fun _ => rfl) ?_
        refine pq_s (pc' := 55) rfl rfl rfl rfl rfl ?_
        refine pq_w [(0, (2, ((267 : Nat) : Int))), (1, (0, 0)), (2, (0, 0)), (3, (0, 0))] ⟨rfl, rfl, rfl, rfl, trivial⟩ ?_
        obtain ⟨I9, hI9, hB9⟩ := hW
        exact J55 I9 hB9 N15 (by omega) 0 (⟨by decide, by decide⟩ : iR 0) 0 (⟨by decide, by decide⟩ : iR 0) 0 (⟨by decide, by decide⟩ : iR 0) s hv hI9
      · have hW := hW.2 c419
        refine pq_l (pc' := 24) rfl rfl rfl rfl rfl ?_
        refine pq_gr (pc' := 27) (c := 269) (v := 269) rfl rfl rfl rfl rfl rfl hv ?_
        refine pq_l (pc' := 28) rfl rfl rfl rfl rfl ?_
        refine pq_aa (pc' := 29) (b := 272) (k := 4) (n := 9) (m := 9) rfl rfl rfl rfl rfl hv (fun r420a r420b => ?_)
        refine pq_l (pc' := 30) rfl rfl rfl rfl rfl ?_
        refine pq_gr (pc' := 33) (c := 268) (v := 268) rfl rfl rfl rfl rfl rfl hv ?_
        refine pq_l (pc' := 34) rfl rfl rfl rfl rfl ?_
        refine pq_gi (pc' := 37) rfl rfl rfl rfl rfl (fun r421 => ?_)
        refine pq_l (pc' := 38) rfl rfl rfl rfl rfl ?_
        refine pq_sub (pc' := 39) rfl rfl ?_
        refine pq_aa (pc' := 40) (b := 270) (k := 4) (n := 9) (m := 9) rfl rfl rfl rfl rfl hv (fun r422a r422b => ?_)
        refine pq_cVV (pc' := 43) rfl rfl rfl rfl rfl (c_copy1 L ys d s hv (272 + 4 * (l1).toNat) (⟨by omega, by omega⟩ : nb (272 + 4 * (l1).toNat)) (270 + 4 * ((w32 ((cgf s 267 4) - l1))).toNat) _ hW) (fun s423 hr => ?_)
        obtain ⟨s423v, hW⟩ := hr
        refine pq_inc (pc' := 46) rfl rfl rfl rfl ?_
        refine pq_gotoT (pc' := 15) rfl rfl (fun m425 m425l => ?_)
        refine pq_w [(0, (2, ((267 : Nat) : Int))), (1, (0, (w32 (l1 + 1))))] ⟨rfl, rfl, trivial⟩ ?_
        exact ih15 m425 (by omega) (by omega) (w32 (l1 + 1)) (w32_r _) s423 s423v hW
  unfold C_changes5 at hW
  refine pq_l (pc' := 1) rfl rfl rfl rfl rfl ?_
  refine pq_l (pc' := 2) rfl rfl rfl rfl rfl ?_
  refine pq_gr (pc' := 5) (c := 268) (v := 268) rfl rfl rfl rfl rfl rfl hv ?_
  refine pq_cVI (pc' := 8) rfl rfl rfl rfl rfl (c_mixed5 L ys d s hv  _ hW) (fun z427 s426 hr => ?_)
  obtain ⟨s426v, z427r, hW⟩ := hr
  refine pq_z_ne (pt := 13) (pc' := 11) rfl rfl rfl (fun c428 => ?_) (fun c428 => ?_)
  · have hW := hW.1 c428
    refine pq_k (pc' := 14) (v := (0, 0)) rfl rfl rfl (fun _ => rfl) ?_
    refine pq_s (pc' := 15) rfl rfl rfl rfl rfl ?_
    refine pq_w [(0, (2, ((267 : Nat) : Int))), (1, (0, 0))] ⟨rfl, rfl, trivial⟩ ?_
    obtain ⟨I9, hI9, hB9⟩ := hW
    exact J15 I9 hB9 N (by omega) 0 (⟨by decide, by decide⟩ : iR 0) s426 s426v hI9
  · have hW := hW.2 c428
    refine pq_k (pc' := 12) (v := (0, 0)) rfl rfl rfl (fun _ => rfl) ?_
    exact pq_iret rfl ⟨_, rfl, s426v, (⟨by decide, by decide⟩ : iR 0), hW⟩
def C_halve5_2 (K2 : Int × im_S → Prop) (l1 : Int) (s : im_S) (Q : im_S → Prop) : Prop := (((cgf s 267 4) ≤ l1 → (C_shiftUp1 306 1 s (fun s3 => (∀ s6, s6 = cpf s3 267 5 (w32 ((cgf s3 267 5) + 1)) → (Q s6))))) ∧ (¬ ((cgf s 267 4) ≤ l1) → (C_shiftUp1 (270 + 4 * (l1).toNat) (w32 ((cgf s 267 4) - l1)) s (fun s9 => (K2 ((w32 (l1 + 1)), s9))))))
def C_halve5 (s : im_S) (Q : im_S → Prop) : Prop := (ploop (fun (K : Int × im_S → Prop) (a : Int × im_S) => C_halve5_2 K a.1 a.2 Q) (0, s))
set_option maxRecDepth 16384 in
theorem c_halve5 (L : Nat) (ys : Nat → Int32) (d : Nat) (s : im_S) (hv : jI s) (Q : im_S → Prop) (hW : C_halve5 s Q) : pcV L ys d 163 [(2, ((267 : Nat) : Int))] s (fun s9 => jI s9 ∧ Q s9) := by
  intro res hres
  refine pq_start (M := rm_p_X5_halve) (Q := (fun r : im_Re => r.1 = none ∧ (jI r.2 ∧ Q r.2))) om_X5_halve (fun d N => ?_) res hres
  refine pq_w [(0, (2, ((267 : Nat) : Int)))] ⟨rfl, trivial⟩ ?_
  have J2 : ∀ (I2 : Int × im_S → Prop) (hB2 : ∀ a : Int × im_S, I2 a → C_halve5_2 I2 a.1 a.2 Q), ∀ N2 : Nat, N2 ≤ N → ∀ (l1 : Int) (l1r : iR l1) (s : im_S) (hv : jI s), I2 (l1, s) → pq L ys d N2 rm_p_X5_halve (2, [(0, (2, ((267 : Nat) : Int))), (1, (0, l1))], [], s) (fun r : im_Re => r.1 = none ∧ (jI r.2 ∧ Q r.2)) := by
    intro I2 hB2 N2
    induction N2 using Nat.strongRecOn with
    | _ N2 ih2 =>
      intro hN2 l1 l1r s hv hI
      have hW : C_halve5_2 I2 l1 s Q := hB2 (l1, s) hI
      unfold C_halve5_2 at hW
      refine pq_l (pc' := 3) rfl rfl rfl rfl rfl ?_
      refine pq_l (pc' := 4) rfl rfl rfl rfl rfl ?_
      refine pq_gi (pc' := 7) rfl rfl rfl rfl rfl (fun r1 => ?_)
      refine pq_c_ge (pt := 31) (pc' := 10) rfl rfl rfl (fun c2 => ?_) (fun c2 => ?_)
      · have hW := hW.1 c2
        refine pq_l (pc' := 32) rfl rfl rfl rfl rfl ?_
        refine pq_gr (pc' := 35) (c := 306) (v := 306) rfl rfl rfl rfl rfl rfl hv ?_
        refine pq_k (pc' := 36) (v := (0, 1)) rfl rfl rfl (fun _ => rfl) ?_
        refine pq_cVV (pc' := 39) rfl rfl rfl rfl rfl (c_shiftUp1 L ys d s hv 306 (⟨by decide, by decide⟩ : nb 306) 1 (⟨by decide, by decide⟩ : iR 1) _ hW) (fun s3 hr => ?_)
        obtain ⟨s3v, hW⟩ := hr
        refine pq_l (pc' := 40) rfl rfl rfl rfl rfl ?_
        refine pq_x (pc' := 41) rfl rfl rfl (fun _ => rfl) ?_
        refine pq_gi (pc' := 44) rfl rfl rfl rfl rfl (fun r5 => ?_)
        refine pq_k (pc' := 45) (v := (0, 1)) rfl rfl rfl (fun _ => rfl) ?_
        refine pq_add (pc' := 46) rfl rfl ?_
        refine pq_pX (pc' := 49) rfl rfl rfl rfl (fun e => absurd e (by decide)) (fun e => absurd e (by decide)) s3v (fun s6 s6e s6v => ?_)
        have hW := hW s6 s6e
        exact pq_vret rfl ⟨rfl, s6v, hW⟩
      · have hW := hW.2 c2
        refine pq_l (pc' := 11) rfl rfl rfl rfl rfl ?_
        refine pq_gr (pc' := 14) (c := 268) (v := 268) rfl rfl rfl rfl rfl rfl hv ?_
        refine pq_l (pc' := 15) rfl rfl rfl rfl rfl ?_
        refine pq_aa (pc' := 16) (b := 270) (k := 4) (n := 9) (m := 9) rfl rfl rfl rfl rfl hv (fun r7a r7b => ?_)
        refine pq_l (pc' := 17) rfl rfl rfl rfl rfl ?_
        refine pq_gi (pc' := 20) rfl rfl rfl rfl rfl (fun r8 => ?_)
        refine pq_l (pc' := 21) rfl rfl rfl rfl rfl ?_
        refine pq_sub (pc' := 22) rfl rfl ?_
        refine pq_cVV (pc' := 25) rfl rfl rfl rfl rfl (c_shiftUp1 L ys d s hv (270 + 4 * (l1).toNat) (⟨by omega, by omega⟩ : nb (270 + 4 * (l1).toNat)) (w32 ((cgf s 267 4) - l1)) (w32_r _) _ hW) (fun s9 hr => ?_)
        obtain ⟨s9v, hW⟩ := hr
        refine pq_inc (pc' := 28) rfl rfl rfl rfl ?_
        refine pq_gotoT (pc' := 2) rfl rfl (fun m11 m11l => ?_)
        refine pq_w [(0, (2, ((267 : Nat) : Int))), (1, (0, (w32 (l1 + 1))))] ⟨rfl, rfl, trivial⟩ ?_
        exact ih2 m11 (by omega) (by omega) (w32 (l1 + 1)) (w32_r _) s9 s9v hW
  unfold C_halve5 at hW
  refine pq_k (pc' := 1) (v := (0, 0)) rfl rfl rfl (fun _ => rfl) ?_
  refine pq_s (pc' := 2) rfl rfl rfl rfl rfl ?_
  refine pq_w [(0, (2, ((267 : Nat) : Int))), (1, (0, 0))] ⟨rfl, rfl, trivial⟩ ?_
  obtain ⟨I9, hI9, hB9⟩ := hW
  exact J2 I9 hB9 N (by omega) 0 (⟨by decide, by decide⟩ : iR 0) s hv hI9
def C_stepOn5_91 (l1 : Int) (s : im_S) (Q : Int → im_S → Prop) : Prop := (∀ v202 : Int, v202 = (if l1 < (cgf s 267 5) then 1 else (if 0 < (cgf s 306 2) then 0 else 1)) → (Q v202 s))
def C_stepOn5_41 (K21 : im_S → Prop) (K41 : Int × im_S → Prop) (l1 : Int) (l2 : Int) (s : im_S) (Q : Int → im_S → Prop) : Prop := (((cgf s 267 4) ≤ l2 → (C_shiftDown1 306 1 s (fun s206 => (∀ s209, s209 = cpf s206 267 5 (w32 ((cgf s206 267 5) - 1)) → (K21 (s209)))))) ∧ (¬ ((cgf s 267 4) ≤ l2) → (C_shiftDown1 (270 + 4 * (l2).toNat) (w32 ((cgf s 267 4) - l2)) s (fun s213 => (K41 ((w32 (l2 + 1)), s213))))))
def C_stepOn5_21 (K21 : im_S → Prop) (l1 : Int) (s : im_S) (Q : Int → im_S → Prop) : Prop := (((cgf s 267 5) ≤ l1 → (C_stepOn5_91 l1 s Q)) ∧ (¬ ((cgf s 267 5) ≤ l1) → (C_isEven1 306 s (fun z219 s218 => ((z219 = 0 → (C_stepOn5_91 l1 s218 Q)) ∧ (¬ (z219 = 0) → (ploop (fun (K : Int × im_S → Prop) (a : Int × im_S) => C_stepOn5_41 K21 K l1 a.1 a.2 Q) (0, s218))))))))
def C_stepOn5 (l1 : Int) (s : im_S) (Q : Int → im_S → Prop) : Prop := (C_moveBy5 1 s (fun s221 => (C_add1 306 308 1 s221 (fun s223 => (ploop (fun (K : im_S → Prop) (a : im_S) => C_stepOn5_21 K l1 a Q) (s223))))))
set_option maxRecDepth 16384 in
theorem c_stepOn5 (L : Nat) (ys : Nat → Int32) (d : Nat) (s : im_S) (hv : jI s) (l1 : Int) (l1r : iR l1) (Q : Int → im_S → Prop) (hW : C_stepOn5 l1 s Q) : pcI L ys 0 d 169 [(2, ((267 : Nat) : Int)), (0, l1)] s (fun z9 s9 => jI s9 ∧ iR z9 ∧ Q z9 s9) := by
  intro res hres
  refine pq_start (M := rm_p_X5_stepOn) (Q := (fun r : im_Re => ∃ z, r.1 = some (0, z) ∧ (jI r.2 ∧ iR z ∧ Q z r.2))) om_X5_stepOn (fun d N => ?_) res hres
  refine pq_w [(0, (2, ((267 : Nat) : Int))), (1, (0, l1))] ⟨rfl, rfl, trivial⟩ ?_
  have J91 : ∀ N91 : Nat, N91 ≤ N → ∀ (l1 : Int) (l1r : iR l1) (s : im_S) (hv : jI s), C_stepOn5_91 l1 s Q → pq L ys d N91 rm_p_X5_stepOn (91, [(0, (2, ((267 : Nat) : Int))), (1, (0, l1))], [], s) (fun r : im_Re => ∃ z, r.1 = some (0, z) ∧ (jI r.2 ∧ iR z ∧ Q z r.2)) := by
    intro N91 hN91 l1 l1r s hv hW
    unfold C_stepOn5_91 at hW
    refine pq_l (pc' := 92) rfl rfl rfl rfl rfl ?_
    refine pq_gi (pc' := 95) rfl rfl rfl rfl rfl (fun r1 => ?_)
    refine pq_l (pc' := 96) rfl rfl rfl rfl rfl ?_
    have J203 : ∀ v202 : Int, iR v202 → ((Q v202 s)) → pq L ys d N91 rm_p_X5_stepOn (114, [], [(0, v202)], s) (fun r : im_Re => ∃ z, r.1 = some (0, z) ∧ (jI r.2 ∧ iR z ∧ Q z r.2)) := by
      intro v202 v202r hW
      exact pq_iret rfl ⟨_, rfl, hv, v202r, hW⟩
    refine pq_c_gt (pt := 109) (pc' := 99) rfl rfl rfl (fun c2 => ?_) (fun c2 => ?_)
    · refine pq_k (pc' := 110) (v := (0, 1)) rfl rfl rfl (fun _ => rfl) ?_
      refine pq_goto (pc' := 114) rfl rfl ?_
      refine pq_w [] trivial ?_
      exact J203 1 (⟨by decide, by decide⟩ : iR 1) (hW _ (by rw [if_pos c2]))
    · refine pq_l (pc' := 100) rfl rfl rfl rfl rfl ?_
      refine pq_gr (pc' := 103) (c := 306) (v := 306) rfl rfl rfl rfl rfl rfl hv ?_
      refine pq_gi (pc' := 106) rfl rfl rfl rfl rfl (fun r3 => ?_)
      refine pq_z_gt (pt := 113) (pc' := 109) rfl rfl rfl (fun c4 => ?_) (fun c4 => ?_)
      · refine pq_k (pc' := 114) (v := (0, 0)) rfl rfl rfl (fun _ => rfl) ?_
        refine pq_w [] trivial ?_
        exact J203 0 (⟨by decide, by decide⟩ : iR 0) (hW _ (by rw [if_neg (fun z => c2 z), if_pos c4]))
      · refine pq_k (pc' := 110) (v := (0, 1)) rfl rfl rfl (fun _ => rfl) ?_
        refine pq_goto (pc' := 114) rfl rfl ?_
        refine pq_w [] trivial ?_
        exact J203 1 (⟨by decide, by decide⟩ : iR 1) (hW _ (by rw [if_neg (fun z => c2 z), if_neg (fun z => c4 z)]))
  have J21 : ∀ (l1 : Int) (l1r : iR l1) (I21 : im_S → Prop) (hB21 : ∀ a : im_S, I21 a → C_stepOn5_21 I21 l1 a Q), ∀ N21 : Nat, N21 ≤ N → ∀ (s : im_S) (hv : jI s), I21 (s) → pq L ys d N21 rm_p_X5_stepOn (21, [(0, (2, ((267 : Nat) : Int))), (1, (0, l1))], [], s) (fun r : im_Re => ∃ z, r.1 = some (0, z) ∧ (jI r.2 ∧ iR z ∧ Q z r.2)) := by
    intro l1 l1r I21 hB21 N21
    induction N21 using Nat.strongRecOn with
    | _ N21 ih21 =>
      intro hN21 s hv hI
      have hW : C_stepOn5_21 I21 l1 s Q := hB21 (s) hI
      have J41 : ∀ (I41 : Int × im_S → Prop) (hB41 : ∀ a : Int × im_S, I41 a → C_stepOn5_41 I21 I41 l1 a.1 a.2 Q), ∀ N41 : Nat, N41 ≤ N21 → ∀ (l2 : Int) (l2r : iR l2) (s : im_S) (hv : jI s), I41 (l2, s) → pq L ys d N41 rm_p_X5_stepOn (41, [(0, (2, ((267 : Nat) : Int))), (1, (0, l1)), (2, (0, l2))], [], s) (fun r : im_Re => ∃ z, r.1 = some (0, z) ∧ (jI r.2 ∧ iR z ∧ Q z r.2)) := by
        intro I41 hB41 N41
        induction N41 using Nat.strongRecOn with
        | _ N41 ih41 =>
          intro hN41 l2 l2r s hv hI
          have hW : C_stepOn5_41 I21 I41 l1 l2 s Q := hB41 (l2, s) hI
          unfold C_stepOn5_41 at hW
          refine pq_l (pc' := 42) rfl rfl rfl rfl rfl ?_
          refine pq_l (pc' := 43) rfl rfl rfl rfl rfl ?_
          refine pq_gi (pc' := 46) rfl rfl rfl rfl rfl (fun r204 => ?_)
          refine pq_c_ge (pt := 70) (pc' := 49) rfl rfl rfl (fun c205 => ?_) (fun c205 => ?_)
          · have hW := hW.1 c205
            refine pq_l (pc' := 71) rfl rfl rfl rfl rfl ?_
            refine pq_gr (pc' := 74) (c := 306) (v := 306) rfl rfl rfl rfl rfl rfl hv ?_
            refine pq_k (pc' := 75) (v := (0, 1)) rfl rfl rfl (fun _ => rfl) ?_
            refine pq_cVV (pc' := 78) rfl rfl rfl rfl rfl (c_shiftDown1 L ys d s hv 306 (⟨by decide, by decide⟩ : nb 306) 1 (⟨by decide, by decide⟩ : iR 1) _ hW) (fun s206 hr => ?_)
            obtain ⟨s206v, hW⟩ := hr
            refine pq_l (pc' := 79) rfl rfl rfl rfl rfl ?_
            refine pq_x (pc' := 80) rfl rfl rfl (fun _ => rfl) ?_
            refine pq_gi (pc' := 83) rfl rfl rfl rfl rfl (fun r208 => ?_)
            refine pq_k (pc' := 84) (v := (0, 1)) rfl rfl rfl (fun _ => rfl) ?_
            refine pq_sub (pc' := 85) rfl rfl ?_
            refine pq_pX (pc' := 88) rfl rfl rfl rfl (fun e => absurd e (by decide)) (fun e => absurd e (by decide)) s206v (fun s209 s209e s209v => ?_)
            have hW := hW s209 s209e
            refine pq_gotoT (pc' := 21) rfl rfl (fun m210 m210l => ?_)
            refine pq_w [(0, (2, ((267 : Nat) : Int))), (1, (0, l1))] ⟨rfl, rfl, trivial⟩ ?_
            exact ih21 m210 (by omega) (by omega) s209 s209v hW
          · have hW := hW.2 c205
            refine pq_l (pc' := 50) rfl rfl rfl rfl rfl ?_
            refine pq_gr (pc' := 53) (c := 268) (v := 268) rfl rfl rfl rfl rfl rfl hv ?_
            refine pq_l (pc' := 54) rfl rfl rfl rfl rfl ?_
            refine pq_aa (pc' := 55) (b := 270) (k := 4) (n := 9) (m := 9) rfl rfl rfl rfl rfl hv (fun r211a r211b => ?_)
            refine pq_l (pc' := 56) rfl rfl rfl rfl rfl ?_
            refine pq_gi (pc' := 59) rfl rfl rfl rfl rfl (fun r212 => ?_)
            refine pq_l (pc' := 60) rfl rfl rfl rfl rfl ?_
            refine pq_sub (pc' := 61) rfl rfl ?_
            refine pq_cVV (pc' := 64) rfl rfl rfl rfl rfl (c_shiftDown1 L ys d s hv (270 + 4 * (l2).toNat) (⟨by omega, by omega⟩ : nb (270 + 4 * (l2).toNat)) (w32 ((cgf s 267 4) - l2)) (w32_r _) _ hW) (fun s213 hr => ?_)
            obtain ⟨s213v, hW⟩ := hr
            refine pq_inc (pc' := 67) rfl rfl rfl rfl ?_
            refine pq_gotoT (pc' := 41) rfl rfl (fun m215 m215l => ?_)
            refine pq_w [(0, (2, ((267 : Nat) : Int))), (1, (0, l1)), (2, (0, (w32 (l2 + 1))))] ⟨rfl, rfl, rfl, trivial⟩ ?_
            exact ih41 m215 (by omega) (by omega) (w32 (l2 + 1)) (w32_r _) s213 s213v hW
      unfold C_stepOn5_21 at hW
      refine pq_l (pc' := 22) rfl rfl rfl rfl rfl ?_
      refine pq_gi (pc' := 25) rfl rfl rfl rfl rfl (fun r216 => ?_)
      refine pq_l (pc' := 26) rfl rfl rfl rfl rfl ?_
      refine pq_c_le (pt := 91) (pc' := 29) rfl rfl rfl (fun c217 => ?_) (fun c217 => ?_)
      · have hW := hW.1 c217
        refine pq_w [(0, (2, ((267 : Nat) : Int))), (1, (0, l1))] ⟨rfl, rfl, trivial⟩ ?_
        exact J91 N21 (by omega) l1 l1r s hv hW
      · have hW := hW.2 c217
        refine pq_l (pc' := 30) rfl rfl rfl rfl rfl ?_
        refine pq_gr (pc' := 33) (c := 306) (v := 306) rfl rfl rfl rfl rfl rfl hv ?_
        refine pq_cVI (pc' := 36) rfl rfl rfl rfl rfl (c_isEven1 L ys d s hv 306 _ hW) (fun z219 s218 hr => ?_)
        obtain ⟨s218v, z219r, hW⟩ := hr
        refine pq_z_eq (pt := 91) (pc' := 39) rfl rfl rfl (fun c220 => ?_) (fun c220 => ?_)
        · have hW := hW.1 c220
          refine pq_w [(0, (2, ((267 : Nat) : Int))), (1, (0, l1))] ⟨rfl, rfl, trivial⟩ ?_
          exact J91 N21 (by omega) l1 l1r s218 s218v hW
        · have hW := hW.2 c220
          refine pq_k (pc' := 40) (v := (0, 0)) rfl rfl rfl (fun _ => rfl) ?_
          refine pq_s (pc' := 41) rfl rfl rfl rfl rfl ?_
          refine pq_w [(0, (2, ((267 : Nat) : Int))), (1, (0, l1)), (2, (0, 0))] ⟨rfl, rfl, rfl, trivial⟩ ?_
          obtain ⟨I9, hI9, hB9⟩ := hW
          exact J41 I9 hB9 N21 (by omega) 0 (⟨by decide, by decide⟩ : iR 0) s218 s218v hI9
  unfold C_stepOn5 at hW
  refine pq_l (pc' := 1) rfl rfl rfl rfl rfl ?_
  refine pq_l (pc' := 2) rfl rfl rfl rfl rfl ?_
  refine pq_gr (pc' := 5) (c := 268) (v := 268) rfl rfl rfl rfl rfl rfl hv ?_
  refine pq_k (pc' := 6) (v := (0, 1)) rfl rfl rfl (fun _ => rfl) ?_
  refine pq_cVV (pc' := 9) rfl rfl rfl rfl rfl (c_moveBy5 L ys d s hv 1 (⟨by decide, by decide⟩ : iR 1) _ hW) (fun s221 hr => ?_)
  obtain ⟨s221v, hW⟩ := hr
  refine pq_l (pc' := 10) rfl rfl rfl rfl rfl ?_
  refine pq_gr (pc' := 13) (c := 306) (v := 306) rfl rfl rfl rfl rfl rfl s221v ?_
  refine pq_l (pc' := 14) rfl rfl rfl rfl rfl ?_
  refine pq_gr (pc' := 17) (c := 308) (v := 308) rfl rfl rfl rfl rfl rfl s221v ?_
  refine pq_k (pc' := 18) (v := (0, 1)) rfl rfl rfl (fun _ => rfl) ?_
  refine pq_cVV (pc' := 21) rfl rfl rfl rfl rfl (c_add1 L ys d s221 s221v 306 (⟨by decide, by decide⟩ : nb 306) 308 1 (⟨by decide, by decide⟩ : iR 1) _ hW) (fun s223 hr => ?_)
  obtain ⟨s223v, hW⟩ := hr
  refine pq_w [(0, (2, ((267 : Nat) : Int))), (1, (0, l1))] ⟨rfl, rfl, trivial⟩ ?_
  obtain ⟨I9, hI9, hB9⟩ := hW
  exact J21 l1 l1r I9 hB9 N (by omega) s223 s223v hI9
def C_part5_151 (l5 : Int) (s : im_S) (Q : Int → im_S → Prop) : Prop := (Q l5 s)
def C_part5_145 (K20 : Int × Int × im_S → Prop) (l4 : Int) (l5 : Int) (l6 : Int) (s : im_S) (Q : Int → im_S → Prop) : Prop := (K20 (l5, (w32 (l6 + 1)), s))
def C_part5_133 (K20 : Int × Int × im_S → Prop) (l4 : Int) (l5 : Int) (l6 : Int) (s : im_S) (Q : Int → im_S → Prop) : Prop := (C_stepOn5 l4 s (fun z3 s2 => ((¬ (z3 = 0) → (C_part5_145 K20 l4 l5 l6 s2 Q)) ∧ (z3 = 0 → (C_part5_151 l5 s2 Q)))))
def C_part5_108 (K20 : Int × Int × im_S → Prop) (l4 : Int) (l5 : Int) (l6 : Int) (l7 : Int) (s : im_S) (Q : Int → im_S → Prop) : Prop := ((¬ (l7 = 1) → (C_part5_133 K20 l4 l5 l6 s Q)) ∧ (l7 = 1 → (C_start8 (311 + 3 * (l5).toNat) 306 (cgf s 267 5) 0 s (fun s8 => (C_part5_133 K20 l4 (w32 (l5 + 1)) l6 s8 Q)))))
def C_part5_20 (K20 : Int × Int × im_S → Prop) (l4 : Int) (l5 : Int) (l6 : Int) (s : im_S) (Q : Int → im_S → Prop) : Prop := ((100000 ≤ l6 → (C_part5_151 l5 s Q)) ∧ (¬ (100000 ≤ l6) → (((cgf s 267 4) ≤ 0 → (C_part5_151 l5 s Q)) ∧ (¬ ((cgf s 267 4) ≤ 0) → (((gln 310) ≤ l5 → (C_part5_151 l5 s Q)) ∧ (¬ ((gln 310) ≤ l5) → ((¬ ((cgf s (270 + 4 * (0 : Int).toNat) 2) = 0) → (C_changes5 s (fun z18 s17 => ((z18 ≤ 1 → (C_part5_108 K20 l4 l5 l6 z18 s17 Q)) ∧ (¬ (z18 ≤ 1) → ((256 ≤ (cgf s17 267 5) → (C_part5_108 K20 l4 l5 l6 z18 s17 Q)) ∧ (¬ (256 ≤ (cgf s17 267 5)) → (C_halve5 s17 (fun s22 => (C_part5_145 K20 l4 l5 l6 s22 Q)))))))))) ∧ ((cgf s (270 + 4 * (0 : Int).toNat) 2) = 0 → (C_start8 (311 + 3 * (l5).toNat) 306 (cgf s 267 5) 1 s (fun s26 => (C_dropZero5 s26 (fun s28 => (C_part5_145 K20 l4 (w32 (l5 + 1)) l6 s28 Q)))))))))))))
def C_part5 (l1 : Nat) (l3 : Int) (s : im_S) (Q : Int → im_S → Prop) : Prop := (C_reach5 l1 s (fun z31 s30 => (C_begin5 l1 (w32 (-z31)) s30 (fun s32 => (ploop (fun (K : Int × Int × im_S → Prop) (a : Int × Int × im_S) => C_part5_20 K (w32 (-z31)) a.1 a.2.1 a.2.2 Q) (l3, 0, s32))))))
set_option maxRecDepth 16384 in
theorem c_part5 (L : Nat) (ys : Nat → Int32) (d : Nat) (s : im_S) (hv : jI s) (l1 : Nat) (l3 : Int) (l3r : iR l3) (Q : Int → im_S → Prop) (hW : C_part5 l1 l3 s Q) : pcI L ys 0 d 167 [(2, ((267 : Nat) : Int)), (2, ((l1 : Nat) : Int)), (2, ((310 : Nat) : Int)), (0, l3)] s (fun z9 s9 => jI s9 ∧ iR z9 ∧ Q z9 s9) := by
  intro res hres
  refine pq_start (M := rm_p_X5_part) (Q := (fun r : im_Re => ∃ z, r.1 = some (0, z) ∧ (jI r.2 ∧ iR z ∧ Q z r.2))) om_X5_part (fun d N => ?_) res hres
  refine pq_w [(0, (2, ((267 : Nat) : Int))), (1, (2, ((l1 : Nat) : Int))), (2, (2, ((310 : Nat) : Int))), (3, (0, l3))] ⟨rfl, rfl, rfl, rfl, trivial⟩ ?_
  have J151 : ∀ N151 : Nat, N151 ≤ N → ∀ (l5 : Int) (l5r : iR l5) (s : im_S) (hv : jI s), C_part5_151 l5 s Q → pq L ys d N151 rm_p_X5_part (151, [(5, (0, l5))], [], s) (fun r : im_Re => ∃ z, r.1 = some (0, z) ∧ (jI r.2 ∧ iR z ∧ Q z r.2)) := by
    intro N151 hN151 l5 l5r s hv hW
    unfold C_part5_151 at hW
    refine pq_l (pc' := 153) rfl rfl rfl rfl rfl ?_
    exact pq_iret rfl ⟨_, rfl, hv, l5r, hW⟩
  have J20 : ∀ (l4 : Int) (l4r : iR l4) (I20 : Int × Int × im_S → Prop) (hB20 : ∀ a : Int × Int × im_S, I20 a → C_part5_20 I20 l4 a.1 a.2.1 a.2.2 Q), ∀ N20 : Nat, N20 ≤ N → ∀ (l5 : Int) (l5r : iR l5) (l6 : Int) (l6r : iR l6) (s : im_S) (hv : jI s), I20 (l5, l6, s) → pq L ys d N20 rm_p_X5_part (20, [(0, (2, ((267 : Nat) : Int))), (2, (2, ((310 : Nat) : Int))), (4, (0, l4)), (5, (0, l5)), (6, (0, l6))], [], s) (fun r : im_Re => ∃ z, r.1 = some (0, z) ∧ (jI r.2 ∧ iR z ∧ Q z r.2)) := by
    intro l4 l4r I20 hB20 N20
    induction N20 using Nat.strongRecOn with
    | _ N20 ih20 =>
      intro hN20 l5 l5r l6 l6r s hv hI
      have hW : C_part5_20 I20 l4 l5 l6 s Q := hB20 (l5, l6, s) hI
      have J145 : ∀ N145 : Nat, N145 ≤ N20 → ∀ (l5 : Int) (l5r : iR l5) (l6 : Int) (l6r : iR l6) (s : im_S) (hv : jI s), C_part5_145 I20 l4 l5 l6 s Q → pq L ys d N145 rm_p_X5_part (145, [(0, (2, ((267 : Nat) : Int))), (2, (2, ((310 : Nat) : Int))), (4, (0, l4)), (5, (0, l5)), (6, (0, l6))], [], s) (fun r : im_Re => ∃ z, r.1 = some (0, z) ∧ (jI r.2 ∧ iR z ∧ Q z r.2)) := by
        intro N145 hN145 l5 l5r l6 l6r s hv hW
        unfold C_part5_145 at hW
        refine pq_inc (pc' := 148) rfl rfl rfl rfl ?_
        refine pq_gotoT (pc' := 20) rfl rfl (fun m1 m1l => ?_)
        refine pq_w [(0, (2, ((267 : Nat) : Int))), (2, (2, ((310 : Nat) : Int))), (4, (0, l4)), (5, (0, l5)), (6, (0, (w32 (l6 + 1))))] ⟨rfl, rfl, rfl, rfl, rfl, trivial⟩ ?_
        exact ih20 m1 (by omega) (by omega) l5 l5r (w32 (l6 + 1)) (w32_r _) s hv hW
      have J133 : ∀ N133 : Nat, N133 ≤ N20 → ∀ (l5 : Int) (l5r : iR l5) (l6 : Int) (l6r : iR l6) (s : im_S) (hv : jI s), C_part5_133 I20 l4 l5 l6 s Q → pq L ys d N133 rm_p_X5_part (133, [(0, (2, ((267 : Nat) : Int))), (2, (2, ((310 : Nat) : Int))), (4, (0, l4)), (5, (0, l5)), (6, (0, l6))], [], s) (fun r : im_Re => ∃ z, r.1 = some (0, z) ∧ (jI r.2 ∧ iR z ∧ Q z r.2)) := by
        intro N133 hN133 l5 l5r l6 l6r s hv hW
        unfold C_part5_133 at hW
        refine pq_l (pc' := 134) rfl rfl rfl rfl rfl ?_
        refine pq_l (pc' := 136) rfl rfl rfl rfl rfl ?_
        refine pq_cVI (pc' := 139) rfl rfl rfl rfl rfl (c_stepOn5 L ys d s hv l4 l4r _ hW) (fun z3 s2 hr => ?_)
        obtain ⟨s2v, z3r, hW⟩ := hr
        refine pq_z_ne (pt := 145) (pc' := 142) rfl rfl rfl (fun c4 => ?_) (fun c4 => ?_)
        · have hW := hW.1 c4
          refine pq_w [(0, (2, ((267 : Nat) : Int))), (2, (2, ((310 : Nat) : Int))), (4, (0, l4)), (5, (0, l5)), (6, (0, l6))] ⟨rfl, rfl, rfl, rfl, rfl, trivial⟩ ?_
          exact J145 N133 (by omega) l5 l5r l6 l6r s2 s2v hW
        · have hW := hW.2 c4
          refine pq_goto (pc' := 151) rfl rfl ?_
          refine pq_w [(5, (0, l5))] ⟨rfl, trivial⟩ ?_
          exact J151 N133 (by omega) l5 l5r s2 s2v hW
      have J108 : ∀ N108 : Nat, N108 ≤ N20 → ∀ (l5 : Int) (l5r : iR l5) (l6 : Int) (l6r : iR l6) (l7 : Int) (l7r : iR l7) (s : im_S) (hv : jI s), C_part5_108 I20 l4 l5 l6 l7 s Q → pq L ys d N108 rm_p_X5_part (108, [(0, (2, ((267 : Nat) : Int))), (2, (2, ((310 : Nat) : Int))), (4, (0, l4)), (5, (0, l5)), (6, (0, l6)), (7, (0, l7))], [], s) (fun r : im_Re => ∃ z, r.1 = some (0, z) ∧ (jI r.2 ∧ iR z ∧ Q z r.2)) := by
        intro N108 hN108 l5 l5r l6 l6r l7 l7r s hv hW
        unfold C_part5_108 at hW
        refine pq_l (pc' := 110) rfl rfl rfl rfl rfl ?_
        refine pq_k (pc' := 111) (v := (0, 1)) rfl rfl rfl (fun _ => rfl) ?_
        refine pq_c_ne (pt := 133) (pc' := 114) rfl rfl rfl (fun c5 => ?_) (fun c5 => ?_)
        · have hW := hW.1 c5
          refine pq_w [(0, (2, ((267 : Nat) : Int))), (2, (2, ((310 : Nat) : Int))), (4, (0, l4)), (5, (0, l5)), (6, (0, l6))] ⟨rfl, rfl, rfl, rfl, rfl, trivial⟩ ?_
          exact J133 N108 (by omega) l5 l5r l6 l6r s hv hW
        · have hW := hW.2 c5
          refine pq_l (pc' := 115) rfl rfl rfl rfl rfl ?_
          refine pq_l (pc' := 117) rfl rfl rfl rfl rfl ?_
          refine pq_aa (pc' := 118) (b := 311) (k := 3) (n := 80) (m := 80) rfl rfl rfl rfl rfl hv (fun r6a r6b => ?_)
          refine pq_l (pc' := 119) rfl rfl rfl rfl rfl ?_
          refine pq_gr (pc' := 122) (c := 306) (v := 306) rfl rfl rfl rfl rfl rfl hv ?_
          refine pq_l (pc' := 123) rfl rfl rfl rfl rfl ?_
          refine pq_gi (pc' := 126) rfl rfl rfl rfl rfl (fun r7 => ?_)
          refine pq_k (pc' := 127) (v := (0, 0)) rfl rfl rfl (fun _ => rfl) ?_
          refine pq_cVV (pc' := 130) rfl rfl rfl rfl rfl (c_start8 L ys d s hv (311 + 3 * (l5).toNat) (⟨by omega, by omega⟩ : nb ((311 + 3 * (l5).toNat) + 1)) 306 (cgf s 267 5) r7 0 (⟨by decide, by decide⟩ : iR 0) _ hW) (fun s8 hr => ?_)
          obtain ⟨s8v, hW⟩ := hr
          refine pq_inc (pc' := 133) rfl rfl rfl rfl ?_
          refine pq_w [(0, (2, ((267 : Nat) : Int))), (2, (2, ((310 : Nat) : Int))), (4, (0, l4)), (5, (0, (w32 (l5 + 1)))), (6, (0, l6))] ⟨rfl, rfl, rfl, rfl, rfl, trivial⟩ ?_
          exact J133 N108 (by omega) (w32 (l5 + 1)) (w32_r _) l6 l6r s8 s8v hW
      unfold C_part5_20 at hW
      refine pq_l (pc' := 22) rfl rfl rfl rfl rfl ?_
      refine pq_k (pc' := 24) (v := (0, 100000)) rfl rfl rfl (fun _ => rfl) ?_
      refine pq_c_ge (pt := 151) (pc' := 27) rfl rfl rfl (fun c10 => ?_) (fun c10 => ?_)
      · have hW := hW.1 c10
        refine pq_w [(5, (0, l5))] ⟨rfl, trivial⟩ ?_
        exact J151 N20 (by omega) l5 l5r s hv hW
      · have hW := hW.2 c10
        refine pq_l (pc' := 28) rfl rfl rfl rfl rfl ?_
        refine pq_gi (pc' := 31) rfl rfl rfl rfl rfl (fun r11 => ?_)
        refine pq_z_le (pt := 151) (pc' := 34) rfl rfl rfl (fun c12 => ?_) (fun c12 => ?_)
        · have hW := hW.1 c12
          refine pq_w [(5, (0, l5))] ⟨rfl, trivial⟩ ?_
          exact J151 N20 (by omega) l5 l5r s hv hW
        · have hW := hW.2 c12
          refine pq_l (pc' := 36) rfl rfl rfl rfl rfl ?_
          refine pq_l (pc' := 37) rfl rfl rfl rfl rfl ?_
          refine pq_alen (pc' := 38) rfl rfl ?_
          refine pq_c_ge (pt := 151) (pc' := 41) rfl rfl rfl (fun c13 => ?_) (fun c13 => ?_)
          · have hW := hW.1 c13
            refine pq_w [(5, (0, l5))] ⟨rfl, trivial⟩ ?_
            exact J151 N20 (by omega) l5 l5r s hv hW
          · have hW := hW.2 c13
            refine pq_l (pc' := 42) rfl rfl rfl rfl rfl ?_
            refine pq_gr (pc' := 45) (c := 268) (v := 268) rfl rfl rfl rfl rfl rfl hv ?_
            refine pq_k (pc' := 46) (v := (0, 0)) rfl rfl rfl (fun _ => rfl) ?_
            refine pq_aa (pc' := 47) (b := 270) (k := 4) (n := 9) (m := 9) rfl rfl rfl rfl rfl hv (fun r14a r14b => ?_)
            refine pq_gi (pc' := 50) rfl rfl rfl rfl rfl (fun r15 => ?_)
            refine pq_z_ne (pt := 79) (pc' := 53) rfl rfl rfl (fun c16 => ?_) (fun c16 => ?_)
            · have hW := hW.1 c16
              refine pq_l (pc' := 80) rfl rfl rfl rfl rfl ?_
              refine pq_cVI (pc' := 83) rfl rfl rfl rfl rfl (c_changes5 L ys d s hv  _ hW) (fun z18 s17 hr => ?_)
              obtain ⟨s17v, z18r, hW⟩ := hr
              refine pq_s (pc' := 85) rfl rfl rfl rfl rfl ?_
              refine pq_l (pc' := 87) rfl rfl rfl rfl rfl ?_
              refine pq_k (pc' := 88) (v := (0, 1)) rfl rfl rfl (fun _ => rfl) ?_
              refine pq_c_le (pt := 108) (pc' := 91) rfl rfl rfl (fun c19 => ?_) (fun c19 => ?_)
              · have hW := hW.1 c19
                refine pq_w [(0, (2, ((267 : Nat) : Int))), (2, (2, ((310 : Nat) : Int))), (4, (0, l4)), (5, (0, l5)), (6, (0, l6)), (7, (0, z18))] ⟨rfl, rfl, rfl, rfl, rfl, rfl, trivial⟩ ?_
                exact J108 N20 (by omega) l5 l5r l6 l6r z18 z18r s17 s17v hW
              · have hW := hW.2 c19
                refine pq_l (pc' := 92) rfl rfl rfl rfl rfl ?_
                refine pq_gi (pc' := 95) rfl rfl rfl rfl rfl (fun r20 => ?_)
                refine pq_k (pc' := 98) (v := (0, 256)) rfl rfl rfl (fun _ => rfl) ?_
                refine pq_c_ge (pt := 108) (pc' := 101) rfl rfl rfl (fun c21 => ?_) (fun c21 => ?_)
                · have hW := hW.1 c21
                  refine pq_w [(0, (2, ((267 : Nat) : Int))), (2, (2, ((310 : Nat) : Int))), (4, (0, l4)), (5, (0, l5)), (6, (0, l6)), (7, (0, z18))] ⟨rfl, rfl, rfl, rfl, rfl, rfl, trivial⟩ ?_
                  exact J108 N20 (by omega) l5 l5r l6 l6r z18 z18r s17 s17v hW
                · have hW := hW.2 c21
                  refine pq_l (pc' := 102) rfl rfl rfl rfl rfl ?_
                  refine pq_cVV (pc' := 105) rfl rfl rfl rfl rfl (c_halve5 L ys d s17 s17v  _ hW) (fun s22 hr => ?_)
                  obtain ⟨s22v, hW⟩ := hr
                  refine pq_goto (pc' := 145) rfl rfl ?_
                  refine pq_w [(0, (2, ((267 : Nat) : Int))), (2, (2, ((310 : Nat) : Int))), (4, (0, l4)), (5, (0, l5)), (6, (0, l6))] ⟨rfl, rfl, rfl, rfl, rfl, trivial⟩ ?_
                  exact J145 N20 (by omega) l5 l5r l6 l6r s22 s22v hW
            · have hW := hW.2 c16
              refine pq_l (pc' := 54) rfl rfl rfl rfl rfl ?_
              refine pq_l (pc' := 56) rfl rfl rfl rfl rfl ?_
              refine pq_aa (pc' := 57) (b := 311) (k := 3) (n := 80) (m := 80) rfl rfl rfl rfl rfl hv (fun r24a r24b => ?_)
              refine pq_l (pc' := 58) rfl rfl rfl rfl rfl ?_
              refine pq_gr (pc' := 61) (c := 306) (v := 306) rfl rfl rfl rfl rfl rfl hv ?_
              refine pq_l (pc' := 62) rfl rfl rfl rfl rfl ?_
              refine pq_gi (pc' := 65) rfl rfl rfl rfl rfl (fun r25 => ?_)
              refine pq_k (pc' := 66) (v := (0, 1)) rfl rfl rfl (fun _ => rfl) ?_
              refine pq_cVV (pc' := 69) rfl rfl rfl rfl rfl (c_start8 L ys d s hv (311 + 3 * (l5).toNat) (⟨by omega, by omega⟩ : nb ((311 + 3 * (l5).toNat) + 1)) 306 (cgf s 267 5) r25 1 (⟨by decide, by decide⟩ : iR 1) _ hW) (fun s26 hr => ?_)
              obtain ⟨s26v, hW⟩ := hr
              refine pq_inc (pc' := 72) rfl rfl rfl rfl ?_
              refine pq_l (pc' := 73) rfl rfl rfl rfl rfl ?_
              refine pq_cVV (pc' := 76) rfl rfl rfl rfl rfl (c_dropZero5 L ys d s26 s26v  _ hW) (fun s28 hr => ?_)
              obtain ⟨s28v, hW⟩ := hr
              refine pq_goto (pc' := 145) rfl rfl ?_
              refine pq_w [(0, (2, ((267 : Nat) : Int))), (2, (2, ((310 : Nat) : Int))), (4, (0, l4)), (5, (0, (w32 (l5 + 1)))), (6, (0, l6))] ⟨rfl, rfl, rfl, rfl, rfl, trivial⟩ ?_
              exact J145 N20 (by omega) (w32 (l5 + 1)) (w32_r _) l6 l6r s28 s28v hW
  unfold C_part5 at hW
  refine pq_l (pc' := 1) rfl rfl rfl rfl rfl ?_
  refine pq_cSI (pc' := 4) rfl rfl rfl rfl rfl (c_reach5 L ys d s hv l1 _ hW) (fun z31 s30 hr => ?_)
  obtain ⟨s30v, z31r, hW⟩ := hr
  refine pq_ineg (pc' := 5) rfl rfl ?_
  refine pq_s (pc' := 7) rfl rfl rfl rfl rfl ?_
  refine pq_l (pc' := 8) rfl rfl rfl rfl rfl ?_
  refine pq_l (pc' := 9) rfl rfl rfl rfl rfl ?_
  refine pq_l (pc' := 11) rfl rfl rfl rfl rfl ?_
  refine pq_cVV (pc' := 14) rfl rfl rfl rfl rfl (c_begin5 L ys d s30 s30v l1 (w32 (-z31)) (w32_r _) _ hW) (fun s32 hr => ?_)
  obtain ⟨s32v, hW⟩ := hr
  refine pq_l (pc' := 15) rfl rfl rfl rfl rfl ?_
  refine pq_s (pc' := 17) rfl rfl rfl rfl rfl ?_
  refine pq_k (pc' := 18) (v := (0, 0)) rfl rfl rfl (fun _ => rfl) ?_
  refine pq_s (pc' := 20) rfl rfl rfl rfl rfl ?_
  refine pq_w [(0, (2, ((267 : Nat) : Int))), (2, (2, ((310 : Nat) : Int))), (4, (0, (w32 (-z31)))), (5, (0, l3)), (6, (0, 0))] ⟨rfl, rfl, rfl, rfl, rfl, trivial⟩ ?_
  obtain ⟨I9, hI9, hB9⟩ := hW
  exact J20 (w32 (-z31)) (w32_r _) I9 hB9 N (by omega) l3 l3r 0 (⟨by decide, by decide⟩ : iR 0) s32 s32v hI9
