/-! foldRest and addAtom with find by value, lifted by program -/
def C_foldRest0v_234 (s : im_S) (Q : im_S → Prop) : Prop := (Q s)
def C_foldRest0v_188 (K188 : Int × im_S → Prop) (l1 : Int) (l3 : Int) (s : im_S) (Q : im_S → Prop) : Prop := ((10 ≤ l3 → (∀ s3, s3 = cpf s 84 2 (w32 ((cgf s 84 2) + 1)) → (C_foldRest0v_234 s3 Q))) ∧ (¬ (10 ≤ l3) → (∀ v205 : Int, v205 = (if ¬ (l3 = l1) then 0 else 1) → ((0 ≤ (w32 ((w32 ((cgf s 84 2) * 10)) + l3)) ∧ (w32 ((w32 ((cgf s 84 2) * 10)) + l3)) < gln 246) → ∀ s207, s207 = cpa s 246 (w32 ((w32 ((cgf s 84 2) * 10)) + l3)) v205 → (K188 ((w32 (l3 + 1)), s207))))))
def C_foldRest0v_151 (l1 : Int) (s : im_S) (Q : im_S → Prop) : Prop := (((cgf s 265 0) ≤ 0 → (C_foldRest0v_234 s Q)) ∧ (¬ ((cgf s 265 0) ≤ 0) → ((80 ≤ (cgf s 84 2) → (C_foldRest0v_234 s Q)) ∧ (¬ (80 ≤ (cgf s 84 2)) → (C_copy6 (86 + 2 * ((cgf s 84 2)).toNat) 265 s (fun s215 => (ploop (fun (K : Int × im_S → Prop) (a : Int × im_S) => C_foldRest0v_188 K l1 a.1 a.2 Q) (0, s215))))))))
def C_foldRest0v_145 (K7 : Int × im_S → Prop) (l1 : Int) (l2 : Int) (l3 : Int) (s : im_S) (Q : im_S → Prop) : Prop := (K7 ((w32 (l3 + 1)), s))
def C_foldRest0v_99 (K7 : Int × im_S → Prop) (l1 : Int) (l2 : Int) (l3 : Int) (l4 : Int) (s : im_S) (Q : im_S → Prop) : Prop := (caI s 246 (w32 ((w32 (l4 * 10)) + l1)) → ((0 ≤ (w32 ((w32 (l4 * 10)) + l1)) ∧ (w32 ((w32 (l4 * 10)) + l1)) < gln 246) → ∀ s219, s219 = cpa s 246 (w32 ((w32 (l4 * 10)) + l1)) (w32 ((cga s 246 (w32 ((w32 (l4 * 10)) + l1))) + 1)) → (C_divide2 265 263 s219 (fun z221 s220 => (C_copy6 265 257 s220 (fun s222 => (C_foldRest0v_145 K7 l1 l2 l3 s222 Q)))))))
def C_foldRest0v_7 (K7 : Int × im_S → Prop) (l1 : Int) (l2 : Int) (l3 : Int) (s : im_S) (Q : im_S → Prop) : Prop := ((l2 ≤ l3 → (C_foldRest0v_151 l1 s Q)) ∧ (¬ (l2 ≤ l3) → (((cgf s 265 0) ≤ 0 → (C_foldRest0v_151 l1 s Q)) ∧ (¬ ((cgf s 265 0) ≤ 0) → (C_find2v (86 + 2 * (l3).toNat) 265 s (fun s228 => (((cgf s228 255 0) ≤ 0 → (C_foldRest0v_145 K7 l1 l2 l3 s228 Q)) ∧ (¬ ((cgf s228 255 0) ≤ 0) → (C_copy6 263 255 s228 (fun s232 => (((cgf s232 (86 + 2 * (l3).toNat) 0) ≤ (cgf s232 263 0) → (C_foldRest0v_99 K7 l1 l2 l3 l3 s232 Q)) ∧ (¬ ((cgf s232 (86 + 2 * (l3).toNat) 0) ≤ (cgf s232 263 0)) → (C_splitOff0 l3 263 s232 (fun z239 s238 => (C_foldRest0v_99 K7 l1 l2 l3 z239 s238 Q)))))))))))))))
def C_foldRest0v (l1 : Int) (s : im_S) (Q : im_S → Prop) : Prop := (ploop (fun (K : Int × im_S → Prop) (a : Int × im_S) => C_foldRest0v_7 K l1 (cgf s 84 2) a.1 a.2 Q) (0, s))
set_option maxRecDepth 16384 in
theorem c_foldRest0v (L : Nat) (ys : Nat → Int32) (d : Nat) (s : im_S) (hv : jI s) (l1 : Int) (l1r : iR l1) (Q : im_S → Prop) (hW : C_foldRest0v l1 s Q) : pcV L ys d 2 [(2, ((84 : Nat) : Int)), (0, l1)] s (fun s9 => jI s9 ∧ Q s9) := by
  intro res hres
  refine pq_start (M := rm_p_X0_foldRest) (Q := (fun r : im_Re => r.1 = none ∧ (jI r.2 ∧ Q r.2))) om_X0_foldRest (fun d N => ?_) res hres
  refine pq_w [(0, (2, ((84 : Nat) : Int))), (1, (0, l1))] ⟨rfl, rfl, trivial⟩ ?_
  have J234 : ∀ N234 : Nat, N234 ≤ N → ∀ (s : im_S) (hv : jI s), C_foldRest0v_234 s Q → pq L ys d N234 rm_p_X0_foldRest (234, [], [], s) (fun r : im_Re => r.1 = none ∧ (jI r.2 ∧ Q r.2)) := by
    intro N234 hN234 s hv hW
    unfold C_foldRest0v_234 at hW
    exact pq_vret rfl ⟨rfl, hv, hW⟩
  have J188 : ∀ (l1 : Int) (l1r : iR l1) (I188 : Int × im_S → Prop) (hB188 : ∀ a : Int × im_S, I188 a → C_foldRest0v_188 I188 l1 a.1 a.2 Q), ∀ N188 : Nat, N188 ≤ N → ∀ (l3 : Int) (l3r : iR l3) (s : im_S) (hv : jI s), I188 (l3, s) → pq L ys d N188 rm_p_X0_foldRest (188, [(0, (2, ((84 : Nat) : Int))), (1, (0, l1)), (3, (0, l3))], [], s) (fun r : im_Re => r.1 = none ∧ (jI r.2 ∧ Q r.2)) := by
    intro l1 l1r I188 hB188 N188
    induction N188 using Nat.strongRecOn with
    | _ N188 ih188 =>
      intro hN188 l3 l3r s hv hI
      have hW : C_foldRest0v_188 I188 l1 l3 s Q := hB188 (l3, s) hI
      unfold C_foldRest0v_188 at hW
      refine pq_l (pc' := 189) rfl rfl rfl rfl rfl ?_
      refine pq_k (pc' := 191) (v := (0, 10)) rfl rfl rfl (fun _ => rfl) ?_
      refine pq_c_ge (pt := 224) (pc' := 194) rfl rfl rfl (fun c1 => ?_) (fun c1 => ?_)
      · have hW := hW.1 c1
        refine pq_l (pc' := 225) rfl rfl rfl rfl rfl ?_
        refine pq_x (pc' := 226) rfl rfl rfl (fun _ => rfl) ?_
        refine pq_gi (pc' := 229) rfl rfl rfl rfl rfl (fun r2 => ?_)
        refine pq_k (pc' := 230) (v := (0, 1)) rfl rfl rfl (fun _ => rfl) ?_
        refine pq_add (pc' := 231) rfl rfl ?_
        refine pq_pX (pc' := 234) rfl rfl rfl rfl (fun e => absurd e (by decide)) (fun e => absurd e (by decide)) hv (fun s3 s3e s3v => ?_)
        have hW := hW s3 s3e
        refine pq_w [] trivial ?_
        exact J234 N188 (by omega) s3 s3v hW
      · have hW := hW.2 c1
        refine pq_l (pc' := 195) rfl rfl rfl rfl rfl ?_
        refine pq_gr (pc' := 198) (c := 246) (v := 246) rfl rfl rfl rfl rfl rfl hv ?_
        refine pq_l (pc' := 199) rfl rfl rfl rfl rfl ?_
        refine pq_gi (pc' := 202) rfl rfl rfl rfl rfl (fun r4 => ?_)
        refine pq_k (pc' := 204) (v := (0, 10)) rfl rfl rfl (fun _ => rfl) ?_
        refine pq_mul (pc' := 205) rfl rfl ?_
        refine pq_l (pc' := 206) rfl rfl rfl rfl rfl ?_
        refine pq_add (pc' := 207) rfl rfl ?_
        refine pq_l (pc' := 208) rfl rfl rfl rfl rfl ?_
        refine pq_l (pc' := 209) rfl rfl rfl rfl rfl ?_
        have J206 : ∀ v205 : Int, iR v205 → (((0 ≤ (w32 ((w32 ((cgf s 84 2) * 10)) + l3)) ∧ (w32 ((w32 ((cgf s 84 2) * 10)) + l3)) < gln 246) → ∀ s207, s207 = cpa s 246 (w32 ((w32 ((cgf s 84 2) * 10)) + l3)) v205 → (I188 ((w32 (l3 + 1)), s207)))) → pq L ys d N188 rm_p_X0_foldRest (217, [(0, (2, ((84 : Nat) : Int))), (1, (0, l1)), (3, (0, l3))], [(0, v205), (0, (w32 ((w32 ((cgf s 84 2) * 10)) + l3))), (2, ((246 : Nat) : Int))], s) (fun r : im_Re => r.1 = none ∧ (jI r.2 ∧ Q r.2)) := by
          intro v205 v205r hW
          refine pq_is (pc' := 218) rfl rfl (by decide) (by decide) hv (fun s207a s207b s207 s207e s207v => ?_)
          have hW := hW ⟨s207a, s207b⟩ s207 s207e
          refine pq_inc (pc' := 221) rfl rfl rfl rfl ?_
          refine pq_gotoT (pc' := 188) rfl rfl (fun m208 m208l => ?_)
          refine pq_w [(0, (2, ((84 : Nat) : Int))), (1, (0, l1)), (3, (0, (w32 (l3 + 1))))] ⟨rfl, rfl, rfl, trivial⟩ ?_
          exact ih188 m208 (by omega) (by omega) (w32 (l3 + 1)) (w32_r _) s207 s207v hW
        refine pq_c_ne (pt := 216) (pc' := 212) rfl rfl rfl (fun c5 => ?_) (fun c5 => ?_)
        · refine pq_k (pc' := 217) (v := (0, 0)) rfl rfl rfl (fun _ => rfl) ?_
          refine pq_w [(0, (2, ((84 : Nat) : Int))), (1, (0, l1)), (3, (0, l3))] ⟨rfl, rfl, rfl, trivial⟩ ?_
          exact J206 0 (⟨by decide, by decide⟩ : iR 0) (hW _ (by rw [if_pos c5]))
        · refine pq_k (pc' := 213) (v := (0, 1)) rfl rfl rfl (fun _ => rfl) ?_
          refine pq_goto (pc' := 217) rfl rfl ?_
          refine pq_w [(0, (2, ((84 : Nat) : Int))), (1, (0, l1)), (3, (0, l3))] ⟨rfl, rfl, rfl, trivial⟩ ?_
          exact J206 1 (⟨by decide, by decide⟩ : iR 1) (hW _ (by rw [if_neg (by omega)]))
  have J151 : ∀ N151 : Nat, N151 ≤ N → ∀ (l1 : Int) (l1r : iR l1) (s : im_S) (hv : jI s), C_foldRest0v_151 l1 s Q → pq L ys d N151 rm_p_X0_foldRest (151, [(0, (2, ((84 : Nat) : Int))), (1, (0, l1))], [], s) (fun r : im_Re => r.1 = none ∧ (jI r.2 ∧ Q r.2)) := by
    intro N151 hN151 l1 l1r s hv hW
    unfold C_foldRest0v_151 at hW
    refine pq_l (pc' := 152) rfl rfl rfl rfl rfl ?_
    refine pq_gr (pc' := 155) (c := 265) (v := 265) rfl rfl rfl rfl rfl rfl hv ?_
    refine pq_gi (pc' := 158) rfl rfl rfl rfl rfl (fun r209 => ?_)
    refine pq_z_le (pt := 234) (pc' := 161) rfl rfl rfl (fun c210 => ?_) (fun c210 => ?_)
    · have hW := hW.1 c210
      refine pq_w [] trivial ?_
      exact J234 N151 (by omega) s hv hW
    · have hW := hW.2 c210
      refine pq_l (pc' := 162) rfl rfl rfl rfl rfl ?_
      refine pq_gi (pc' := 165) rfl rfl rfl rfl rfl (fun r211 => ?_)
      refine pq_k (pc' := 167) (v := (0, 80)) rfl rfl rfl (fun _ => rfl) ?_
      refine pq_c_ge (pt := 234) (pc' := 170) rfl rfl rfl (fun c212 => ?_) (fun c212 => ?_)
      · have hW := hW.1 c212
        refine pq_w [] trivial ?_
        exact J234 N151 (by omega) s hv hW
      · have hW := hW.2 c212
        refine pq_l (pc' := 171) rfl rfl rfl rfl rfl ?_
        refine pq_gr (pc' := 174) (c := 85) (v := 85) rfl rfl rfl rfl rfl rfl hv ?_
        refine pq_l (pc' := 175) rfl rfl rfl rfl rfl ?_
        refine pq_gi (pc' := 178) rfl rfl rfl rfl rfl (fun r213 => ?_)
        refine pq_aa (pc' := 179) (b := 86) (k := 2) (n := 80) (m := 80) rfl rfl rfl rfl rfl hv (fun r214a r214b => ?_)
        refine pq_l (pc' := 180) rfl rfl rfl rfl rfl ?_
        refine pq_gr (pc' := 183) (c := 265) (v := 265) rfl rfl rfl rfl rfl rfl hv ?_
        refine pq_cVV (pc' := 186) rfl rfl rfl rfl rfl (c_copy6 L ys d s hv (86 + 2 * ((cgf s 84 2)).toNat) 265 _ hW) (fun s215 hr => ?_)
        obtain ⟨s215v, hW⟩ := hr
        refine pq_k (pc' := 187) (v := (0, 0)) rfl rfl rfl (fun _ => rfl) ?_
        refine pq_s (pc' := 188) rfl rfl rfl rfl rfl ?_
        refine pq_w [(0, (2, ((84 : Nat) : Int))), (1, (0, l1)), (3, (0, 0))] ⟨rfl, rfl, rfl, trivial⟩ ?_
        obtain ⟨I9, hI9, hB9⟩ := hW
        exact J188 l1 l1r I9 hB9 N151 (by omega) 0 (⟨by decide, by decide⟩ : iR 0) s215 s215v hI9
  have J7 : ∀ (l1 : Int) (l1r : iR l1) (l2 : Int) (l2r : iR l2) (I7 : Int × im_S → Prop) (hB7 : ∀ a : Int × im_S, I7 a → C_foldRest0v_7 I7 l1 l2 a.1 a.2 Q), ∀ N7 : Nat, N7 ≤ N → ∀ (l3 : Int) (l3r : iR l3) (s : im_S) (hv : jI s), I7 (l3, s) → pq L ys d N7 rm_p_X0_foldRest (7, [(0, (2, ((84 : Nat) : Int))), (1, (0, l1)), (2, (0, l2)), (3, (0, l3))], [], s) (fun r : im_Re => r.1 = none ∧ (jI r.2 ∧ Q r.2)) := by
    intro l1 l1r l2 l2r I7 hB7 N7
    induction N7 using Nat.strongRecOn with
    | _ N7 ih7 =>
      intro hN7 l3 l3r s hv hI
      have hW : C_foldRest0v_7 I7 l1 l2 l3 s Q := hB7 (l3, s) hI
      have J145 : ∀ N145 : Nat, N145 ≤ N7 → ∀ (l3 : Int) (l3r : iR l3) (s : im_S) (hv : jI s), C_foldRest0v_145 I7 l1 l2 l3 s Q → pq L ys d N145 rm_p_X0_foldRest (145, [(0, (2, ((84 : Nat) : Int))), (1, (0, l1)), (2, (0, l2)), (3, (0, l3))], [], s) (fun r : im_Re => r.1 = none ∧ (jI r.2 ∧ Q r.2)) := by
        intro N145 hN145 l3 l3r s hv hW
        unfold C_foldRest0v_145 at hW
        refine pq_inc (pc' := 148) rfl rfl rfl rfl ?_
        refine pq_gotoT (pc' := 7) rfl rfl (fun m217 m217l => ?_)
        refine pq_w [(0, (2, ((84 : Nat) : Int))), (1, (0, l1)), (2, (0, l2)), (3, (0, (w32 (l3 + 1))))] ⟨rfl, rfl, rfl, rfl, trivial⟩ ?_
        exact ih7 m217 (by omega) (by omega) (w32 (l3 + 1)) (w32_r _) s hv hW
      have J99 : ∀ N99 : Nat, N99 ≤ N7 → ∀ (l3 : Int) (l3r : iR l3) (l4 : Int) (l4r : iR l4) (s : im_S) (hv : jI s), C_foldRest0v_99 I7 l1 l2 l3 l4 s Q → pq L ys d N99 rm_p_X0_foldRest (99, [(0, (2, ((84 : Nat) : Int))), (1, (0, l1)), (2, (0, l2)), (3, (0, l3)), (4, (0, l4))], [], s) (fun r : im_Re => r.1 = none ∧ (jI r.2 ∧ Q r.2)) := by
        intro N99 hN99 l3 l3r l4 l4r s hv hW
        unfold C_foldRest0v_99 at hW
        refine pq_l (pc' := 100) rfl rfl rfl rfl rfl ?_
        refine pq_gr (pc' := 103) (c := 246) (v := 246) rfl rfl rfl rfl rfl rfl hv ?_
        refine pq_l (pc' := 105) rfl rfl rfl rfl rfl ?_
        refine pq_k (pc' := 107) (v := (0, 10)) rfl rfl rfl (fun _ => rfl) ?_
        refine pq_mul (pc' := 108) rfl rfl ?_
        refine pq_l (pc' := 109) rfl rfl rfl rfl rfl ?_
        refine pq_add (pc' := 110) rfl rfl ?_
        refine pq_x (pc' := 111) rfl rfl rfl (fun _ => rfl) ?_
        refine pq_ia (pc' := 112) rfl rfl (fun r218a r218b r218 => ?_)
        have hW := hW ⟨⟨r218a, r218b⟩, r218⟩
        refine pq_k (pc' := 113) (v := (0, 1)) rfl rfl rfl (fun _ => rfl) ?_
        refine pq_add (pc' := 114) rfl rfl ?_
        refine pq_is (pc' := 115) rfl rfl (by decide) (by decide) hv (fun s219a s219b s219 s219e s219v => ?_)
        have hW := hW ⟨s219a, s219b⟩ s219 s219e
        refine pq_l (pc' := 116) rfl rfl rfl rfl rfl ?_
        refine pq_gr (pc' := 119) (c := 247) (v := 247) rfl rfl rfl rfl rfl rfl s219v ?_
        refine pq_l (pc' := 120) rfl rfl rfl rfl rfl ?_
        refine pq_gr (pc' := 123) (c := 265) (v := 265) rfl rfl rfl rfl rfl rfl s219v ?_
        refine pq_l (pc' := 124) rfl rfl rfl rfl rfl ?_
        refine pq_gr (pc' := 127) (c := 263) (v := 263) rfl rfl rfl rfl rfl rfl s219v ?_
        refine pq_cVI (pc' := 130) rfl rfl rfl rfl rfl (c_divide2 L ys d s219 s219v 265 263 _ hW) (fun z221 s220 hr => ?_)
        obtain ⟨s220v, z221r, hW⟩ := hr
        refine pq_x (pc' := 131) rfl rfl rfl (fun _ => rfl) ?_
        refine pq_l (pc' := 132) rfl rfl rfl rfl rfl ?_
        refine pq_gr (pc' := 135) (c := 265) (v := 265) rfl rfl rfl rfl rfl rfl s220v ?_
        refine pq_l (pc' := 136) rfl rfl rfl rfl rfl ?_
        refine pq_gr (pc' := 139) (c := 247) (v := 247) rfl rfl rfl rfl rfl rfl s220v ?_
        refine pq_gr (pc' := 142) (c := 257) (v := 257) rfl rfl rfl rfl rfl rfl s220v ?_
        refine pq_cVV (pc' := 145) rfl rfl rfl rfl rfl (c_copy6 L ys d s220 s220v 265 257 _ hW) (fun s222 hr => ?_)
        obtain ⟨s222v, hW⟩ := hr
        refine pq_w [(0, (2, ((84 : Nat) : Int))), (1, (0, l1)), (2, (0, l2)), (3, (0, l3))] ⟨rfl, rfl, rfl, rfl, trivial⟩ ?_
        exact J145 N99 (by omega) l3 l3r s222 s222v hW
      unfold C_foldRest0v_7 at hW
      refine pq_l (pc' := 8) rfl rfl rfl rfl rfl ?_
      refine pq_l (pc' := 9) rfl rfl rfl rfl rfl ?_
      refine pq_c_ge (pt := 151) (pc' := 12) rfl rfl rfl (fun c224 => ?_) (fun c224 => ?_)
      · have hW := hW.1 c224
        refine pq_w [(0, (2, ((84 : Nat) : Int))), (1, (0, l1))] ⟨rfl, rfl, trivial⟩ ?_
        exact J151 N7 (by omega) l1 l1r s hv hW
      · have hW := hW.2 c224
        refine pq_l (pc' := 13) rfl rfl rfl rfl rfl ?_
        refine pq_gr (pc' := 16) (c := 265) (v := 265) rfl rfl rfl rfl rfl rfl hv ?_
        refine pq_gi (pc' := 19) rfl rfl rfl rfl rfl (fun r225 => ?_)
        refine pq_z_le (pt := 151) (pc' := 22) rfl rfl rfl (fun c226 => ?_) (fun c226 => ?_)
        · have hW := hW.1 c226
          refine pq_w [(0, (2, ((84 : Nat) : Int))), (1, (0, l1))] ⟨rfl, rfl, trivial⟩ ?_
          exact J151 N7 (by omega) l1 l1r s hv hW
        · have hW := hW.2 c226
          refine pq_l (pc' := 23) rfl rfl rfl rfl rfl ?_
          refine pq_gr (pc' := 26) (c := 247) (v := 247) rfl rfl rfl rfl rfl rfl hv ?_
          refine pq_l (pc' := 27) rfl rfl rfl rfl rfl ?_
          refine pq_gr (pc' := 30) (c := 85) (v := 85) rfl rfl rfl rfl rfl rfl hv ?_
          refine pq_l (pc' := 31) rfl rfl rfl rfl rfl ?_
          refine pq_aa (pc' := 32) (b := 86) (k := 2) (n := 80) (m := 80) rfl rfl rfl rfl rfl hv (fun r227a r227b => ?_)
          refine pq_l (pc' := 33) rfl rfl rfl rfl rfl ?_
          refine pq_gr (pc' := 36) (c := 265) (v := 265) rfl rfl rfl rfl rfl rfl hv ?_
          refine pq_cVV (pc' := 39) rfl rfl rfl rfl rfl (c_find2v L ys d s hv (86 + 2 * (l3).toNat) 265 _ hW) (fun s228 hr => ?_)
          obtain ⟨s228v, hW⟩ := hr
          refine pq_l (pc' := 40) rfl rfl rfl rfl rfl ?_
          refine pq_gr (pc' := 43) (c := 247) (v := 247) rfl rfl rfl rfl rfl rfl s228v ?_
          refine pq_gr (pc' := 46) (c := 255) (v := 255) rfl rfl rfl rfl rfl rfl s228v ?_
          refine pq_gi (pc' := 49) rfl rfl rfl rfl rfl (fun r230 => ?_)
          refine pq_z_le (pt := 145) (pc' := 52) rfl rfl rfl (fun c231 => ?_) (fun c231 => ?_)
          · have hW := hW.1 c231
            refine pq_w [(0, (2, ((84 : Nat) : Int))), (1, (0, l1)), (2, (0, l2)), (3, (0, l3))] ⟨rfl, rfl, rfl, rfl, trivial⟩ ?_
            exact J145 N7 (by omega) l3 l3r s228 s228v hW
          · have hW := hW.2 c231
            refine pq_l (pc' := 53) rfl rfl rfl rfl rfl ?_
            refine pq_gr (pc' := 56) (c := 263) (v := 263) rfl rfl rfl rfl rfl rfl s228v ?_
            refine pq_l (pc' := 57) rfl rfl rfl rfl rfl ?_
            refine pq_gr (pc' := 60) (c := 247) (v := 247) rfl rfl rfl rfl rfl rfl s228v ?_
            refine pq_gr (pc' := 63) (c := 255) (v := 255) rfl rfl rfl rfl rfl rfl s228v ?_
            refine pq_cVV (pc' := 66) rfl rfl rfl rfl rfl (c_copy6 L ys d s228 s228v 263 255 _ hW) (fun s232 hr => ?_)
            obtain ⟨s232v, hW⟩ := hr
            refine pq_l (pc' := 67) rfl rfl rfl rfl rfl ?_
            refine pq_s (pc' := 69) rfl rfl rfl rfl rfl ?_
            refine pq_l (pc' := 70) rfl rfl rfl rfl rfl ?_
            refine pq_gr (pc' := 73) (c := 263) (v := 263) rfl rfl rfl rfl rfl rfl s232v ?_
            refine pq_gi (pc' := 76) rfl rfl rfl rfl rfl (fun r234 => ?_)
            refine pq_l (pc' := 77) rfl rfl rfl rfl rfl ?_
            refine pq_gr (pc' := 80) (c := 85) (v := 85) rfl rfl rfl rfl rfl rfl s232v ?_
            refine pq_l (pc' := 81) rfl rfl rfl rfl rfl ?_
            refine pq_aa (pc' := 82) (b := 86) (k := 2) (n := 80) (m := 80) rfl rfl rfl rfl rfl s232v (fun r235a r235b => ?_)
            refine pq_gi (pc' := 85) rfl rfl rfl rfl rfl (fun r236 => ?_)
            refine pq_c_ge (pt := 99) (pc' := 88) rfl rfl rfl (fun c237 => ?_) (fun c237 => ?_)
            · have hW := hW.1 c237
              refine pq_w [(0, (2, ((84 : Nat) : Int))), (1, (0, l1)), (2, (0, l2)), (3, (0, l3)), (4, (0, l3))] ⟨rfl, rfl, rfl, rfl, rfl, trivial⟩ ?_
              exact J99 N7 (by omega) l3 l3r l3 l3r s232 s232v hW
            · have hW := hW.2 c237
              refine pq_l (pc' := 89) rfl rfl rfl rfl rfl ?_
              refine pq_l (pc' := 90) rfl rfl rfl rfl rfl ?_
              refine pq_l (pc' := 91) rfl rfl rfl rfl rfl ?_
              refine pq_gr (pc' := 94) (c := 263) (v := 263) rfl rfl rfl rfl rfl rfl s232v ?_
              refine pq_cVI (pc' := 97) rfl rfl rfl rfl rfl (c_splitOff0 L ys d s232 s232v l3 l3r 263 _ hW) (fun z239 s238 hr => ?_)
              obtain ⟨s238v, z239r, hW⟩ := hr
              refine pq_s (pc' := 99) rfl rfl rfl rfl rfl ?_
              refine pq_w [(0, (2, ((84 : Nat) : Int))), (1, (0, l1)), (2, (0, l2)), (3, (0, l3)), (4, (0, z239))] ⟨rfl, rfl, rfl, rfl, rfl, trivial⟩ ?_
              exact J99 N7 (by omega) l3 l3r z239 z239r s238 s238v hW
  unfold C_foldRest0v at hW
  refine pq_l (pc' := 1) rfl rfl rfl rfl rfl ?_
  refine pq_gi (pc' := 4) rfl rfl rfl rfl rfl (fun r240 => ?_)
  refine pq_s (pc' := 5) rfl rfl rfl rfl rfl ?_
  refine pq_k (pc' := 6) (v := (0, 0)) rfl rfl rfl (fun _ => rfl) ?_
  refine pq_s (pc' := 7) rfl rfl rfl rfl rfl ?_
  refine pq_w [(0, (2, ((84 : Nat) : Int))), (1, (0, l1)), (2, (0, (cgf s 84 2))), (3, (0, 0))] ⟨rfl, rfl, rfl, rfl, trivial⟩ ?_
  obtain ⟨I9, hI9, hB9⟩ := hW
  exact J7 l1 l1r (cgf s 84 2) r240 I9 hB9 N (by omega) 0 (⟨by decide, by decide⟩ : iR 0) s hv hI9
def C_addAtom0v_125 (s : im_S) (Q : im_S → Prop) : Prop := (Q s)
def C_addAtom0v_17 (K17 : Int × im_S → Prop) (l2 : Int) (l3 : Int) (s : im_S) (Q : im_S → Prop) : Prop := ((8 ≤ l3 → (C_addAtom0v_125 s Q)) ∧ (¬ (8 ≤ l3) → (((cgf s 259 0) ≤ 0 → (C_addAtom0v_125 s Q)) ∧ (¬ ((cgf s 259 0) ≤ 0) → (C_setSlopeOf6 261 259 s (fun s4 => (C_find2v 259 261 s4 (fun s6 => (C_copy6 261 255 s6 (fun s8 => (C_divide2 259 261 s8 (fun z11 s10 => (C_copy6 265 257 s10 (fun s12 => (C_copy6 259 261 s12 (fun s14 => (C_foldRest0v l2 s14 (fun s16 => (K17 ((w32 (l3 + 1)), s16))))))))))))))))))))
def C_addAtom0v (l1 : Nat) (l2 : Int) (s : im_S) (Q : im_S → Prop) : Prop := (C_copy6 259 l1 s (fun s19 => (C_makePrimitive6 259 s19 (fun s21 => (ploop (fun (K : Int × im_S → Prop) (a : Int × im_S) => C_addAtom0v_17 K l2 a.1 a.2 Q) (0, s21))))))
set_option maxRecDepth 16384 in
theorem c_addAtom0v (L : Nat) (ys : Nat → Int32) (d : Nat) (s : im_S) (hv : jI s) (l1 : Nat) (l2 : Int) (l2r : iR l2) (Q : im_S → Prop) (hW : C_addAtom0v l1 l2 s Q) : pcV L ys d 0 [(2, ((84 : Nat) : Int)), (2, ((l1 : Nat) : Int)), (0, l2)] s (fun s9 => jI s9 ∧ Q s9) := by
  intro res hres
  refine pq_start (M := rm_p_X0_addAtom) (Q := (fun r : im_Re => r.1 = none ∧ (jI r.2 ∧ Q r.2))) om_X0_addAtom (fun d N => ?_) res hres
  refine pq_w [(0, (2, ((84 : Nat) : Int))), (1, (2, ((l1 : Nat) : Int))), (2, (0, l2))] ⟨rfl, rfl, rfl, trivial⟩ ?_
  have J125 : ∀ N125 : Nat, N125 ≤ N → ∀ (s : im_S) (hv : jI s), C_addAtom0v_125 s Q → pq L ys d N125 rm_p_X0_addAtom (125, [], [], s) (fun r : im_Re => r.1 = none ∧ (jI r.2 ∧ Q r.2)) := by
    intro N125 hN125 s hv hW
    unfold C_addAtom0v_125 at hW
    exact pq_vret rfl ⟨rfl, hv, hW⟩
  have J17 : ∀ (l2 : Int) (l2r : iR l2) (I17 : Int × im_S → Prop) (hB17 : ∀ a : Int × im_S, I17 a → C_addAtom0v_17 I17 l2 a.1 a.2 Q), ∀ N17 : Nat, N17 ≤ N → ∀ (l3 : Int) (l3r : iR l3) (s : im_S) (hv : jI s), I17 (l3, s) → pq L ys d N17 rm_p_X0_addAtom (17, [(0, (2, ((84 : Nat) : Int))), (2, (0, l2)), (3, (0, l3))], [], s) (fun r : im_Re => r.1 = none ∧ (jI r.2 ∧ Q r.2)) := by
    intro l2 l2r I17 hB17 N17
    induction N17 using Nat.strongRecOn with
    | _ N17 ih17 =>
      intro hN17 l3 l3r s hv hI
      have hW : C_addAtom0v_17 I17 l2 l3 s Q := hB17 (l3, s) hI
      unfold C_addAtom0v_17 at hW
      refine pq_l (pc' := 18) rfl rfl rfl rfl rfl ?_
      refine pq_k (pc' := 20) (v := (0, 8)) rfl rfl rfl (fun _ => rfl) ?_
      refine pq_c_ge (pt := 125) (pc' := 23) rfl rfl rfl (fun c1 => ?_) (fun c1 => ?_)
      · have hW := hW.1 c1
        refine pq_w [] trivial ?_
        exact J125 N17 (by omega) s hv hW
      · have hW := hW.2 c1
        refine pq_l (pc' := 24) rfl rfl rfl rfl rfl ?_
        refine pq_gr (pc' := 27) (c := 259) (v := 259) rfl rfl rfl rfl rfl rfl hv ?_
        refine pq_gi (pc' := 30) rfl rfl rfl rfl rfl (fun r2 => ?_)
        refine pq_z_le (pt := 125) (pc' := 33) rfl rfl rfl (fun c3 => ?_) (fun c3 => ?_)
        · have hW := hW.1 c3
          refine pq_w [] trivial ?_
          exact J125 N17 (by omega) s hv hW
        · have hW := hW.2 c3
          refine pq_l (pc' := 34) rfl rfl rfl rfl rfl ?_
          refine pq_gr (pc' := 37) (c := 261) (v := 261) rfl rfl rfl rfl rfl rfl hv ?_
          refine pq_l (pc' := 38) rfl rfl rfl rfl rfl ?_
          refine pq_gr (pc' := 41) (c := 259) (v := 259) rfl rfl rfl rfl rfl rfl hv ?_
          refine pq_cVV (pc' := 44) rfl rfl rfl rfl rfl (c_setSlopeOf6 L ys d s hv 261 259 _ hW) (fun s4 hr => ?_)
          obtain ⟨s4v, hW⟩ := hr
          refine pq_l (pc' := 45) rfl rfl rfl rfl rfl ?_
          refine pq_gr (pc' := 48) (c := 247) (v := 247) rfl rfl rfl rfl rfl rfl s4v ?_
          refine pq_l (pc' := 49) rfl rfl rfl rfl rfl ?_
          refine pq_gr (pc' := 52) (c := 259) (v := 259) rfl rfl rfl rfl rfl rfl s4v ?_
          refine pq_l (pc' := 53) rfl rfl rfl rfl rfl ?_
          refine pq_gr (pc' := 56) (c := 261) (v := 261) rfl rfl rfl rfl rfl rfl s4v ?_
          refine pq_cVV (pc' := 59) rfl rfl rfl rfl rfl (c_find2v L ys d s4 s4v 259 261 _ hW) (fun s6 hr => ?_)
          obtain ⟨s6v, hW⟩ := hr
          refine pq_l (pc' := 60) rfl rfl rfl rfl rfl ?_
          refine pq_gr (pc' := 63) (c := 261) (v := 261) rfl rfl rfl rfl rfl rfl s6v ?_
          refine pq_l (pc' := 64) rfl rfl rfl rfl rfl ?_
          refine pq_gr (pc' := 67) (c := 247) (v := 247) rfl rfl rfl rfl rfl rfl s6v ?_
          refine pq_gr (pc' := 70) (c := 255) (v := 255) rfl rfl rfl rfl rfl rfl s6v ?_
          refine pq_cVV (pc' := 73) rfl rfl rfl rfl rfl (c_copy6 L ys d s6 s6v 261 255 _ hW) (fun s8 hr => ?_)
          obtain ⟨s8v, hW⟩ := hr
          refine pq_l (pc' := 74) rfl rfl rfl rfl rfl ?_
          refine pq_gr (pc' := 77) (c := 247) (v := 247) rfl rfl rfl rfl rfl rfl s8v ?_
          refine pq_l (pc' := 78) rfl rfl rfl rfl rfl ?_
          refine pq_gr (pc' := 81) (c := 259) (v := 259) rfl rfl rfl rfl rfl rfl s8v ?_
          refine pq_l (pc' := 82) rfl rfl rfl rfl rfl ?_
          refine pq_gr (pc' := 85) (c := 261) (v := 261) rfl rfl rfl rfl rfl rfl s8v ?_
          refine pq_cVI (pc' := 88) rfl rfl rfl rfl rfl (c_divide2 L ys d s8 s8v 259 261 _ hW) (fun z11 s10 hr => ?_)
          obtain ⟨s10v, z11r, hW⟩ := hr
          refine pq_x (pc' := 89) rfl rfl rfl (fun _ => rfl) ?_
          refine pq_l (pc' := 90) rfl rfl rfl rfl rfl ?_
          refine pq_gr (pc' := 93) (c := 265) (v := 265) rfl rfl rfl rfl rfl rfl s10v ?_
          refine pq_l (pc' := 94) rfl rfl rfl rfl rfl ?_
          refine pq_gr (pc' := 97) (c := 247) (v := 247) rfl rfl rfl rfl rfl rfl s10v ?_
          refine pq_gr (pc' := 100) (c := 257) (v := 257) rfl rfl rfl rfl rfl rfl s10v ?_
          refine pq_cVV (pc' := 103) rfl rfl rfl rfl rfl (c_copy6 L ys d s10 s10v 265 257 _ hW) (fun s12 hr => ?_)
          obtain ⟨s12v, hW⟩ := hr
          refine pq_l (pc' := 104) rfl rfl rfl rfl rfl ?_
          refine pq_gr (pc' := 107) (c := 259) (v := 259) rfl rfl rfl rfl rfl rfl s12v ?_
          refine pq_l (pc' := 108) rfl rfl rfl rfl rfl ?_
          refine pq_gr (pc' := 111) (c := 261) (v := 261) rfl rfl rfl rfl rfl rfl s12v ?_
          refine pq_cVV (pc' := 114) rfl rfl rfl rfl rfl (c_copy6 L ys d s12 s12v 259 261 _ hW) (fun s14 hr => ?_)
          obtain ⟨s14v, hW⟩ := hr
          refine pq_l (pc' := 115) rfl rfl rfl rfl rfl ?_
          refine pq_l (pc' := 116) rfl rfl rfl rfl rfl ?_
          refine pq_cVV (pc' := 119) rfl rfl rfl rfl rfl (c_foldRest0v L ys d s14 s14v l2 l2r _ hW) (fun s16 hr => ?_)
          obtain ⟨s16v, hW⟩ := hr
          refine pq_inc (pc' := 122) rfl rfl rfl rfl ?_
          refine pq_gotoT (pc' := 17) rfl rfl (fun m18 m18l => ?_)
          refine pq_w [(0, (2, ((84 : Nat) : Int))), (2, (0, l2)), (3, (0, (w32 (l3 + 1))))] ⟨rfl, rfl, rfl, trivial⟩ ?_
          exact ih17 m18 (by omega) (by omega) (w32 (l3 + 1)) (w32_r _) s16 s16v hW
  unfold C_addAtom0v at hW
  refine pq_l (pc' := 1) rfl rfl rfl rfl rfl ?_
  refine pq_gr (pc' := 4) (c := 259) (v := 259) rfl rfl rfl rfl rfl rfl hv ?_
  refine pq_l (pc' := 5) rfl rfl rfl rfl rfl ?_
  refine pq_cVV (pc' := 8) rfl rfl rfl rfl rfl (c_copy6 L ys d s hv 259 l1 _ hW) (fun s19 hr => ?_)
  obtain ⟨s19v, hW⟩ := hr
  refine pq_l (pc' := 9) rfl rfl rfl rfl rfl ?_
  refine pq_gr (pc' := 12) (c := 259) (v := 259) rfl rfl rfl rfl rfl rfl s19v ?_
  refine pq_cVV (pc' := 15) rfl rfl rfl rfl rfl (c_makePrimitive6 L ys d s19 s19v 259 _ hW) (fun s21 hr => ?_)
  obtain ⟨s21v, hW⟩ := hr
  refine pq_k (pc' := 16) (v := (0, 0)) rfl rfl rfl (fun _ => rfl) ?_
  refine pq_s (pc' := 17) rfl rfl rfl rfl rfl ?_
  refine pq_w [(0, (2, ((84 : Nat) : Int))), (2, (0, l2)), (3, (0, 0))] ⟨rfl, rfl, rfl, trivial⟩ ?_
  obtain ⟨I9, hI9, hB9⟩ := hW
  exact J17 l2 l2r I9 hB9 N (by omega) 0 (⟨by decide, by decide⟩ : iR 0) s21 s21v hI9
