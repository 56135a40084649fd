/-! LINE OF THE CLASS, lifted by program -/
def C_rootAt4 (l1 : Int) (s : im_S) (Q : Nat → im_S → Prop) : Prop := (C_J9_min_7cf53 l1 79 s (fun z2 s1 => (C_J9_max_7cf53 0 z2 s1 (fun z4 s3 => (caI s3 577 z4 → (Q (311 + 3 * ((cga s3 577 z4)).toNat) s3))))))
set_option maxRecDepth 16384 in
theorem c_rootAt4 (L : Nat) (ys : Nat → Int32) (d : Nat) (s : im_S) (hv : jI s) (l1 : Int) (l1r : iR l1) (Q : Nat → im_S → Prop) (hW : C_rootAt4 l1 s Q) : pcR L ys d 157 [(2, ((1 : Nat) : Int)), (0, l1)] s (fun z9 s9 => jI s9 ∧ nb (z9 + 1) ∧ Q z9 s9) := by
  intro res hres
  refine pq_start (M := rm_p_X4_rootAt) (Q := (fun r : im_Re => ∃ z : Nat, r.1 = some (2, (z : Int)) ∧ (jI r.2 ∧ nb (z + 1) ∧ Q z r.2))) om_X4_rootAt (fun d N => ?_) res hres
  refine pq_w [(0, (2, ((1 : Nat) : Int))), (1, (0, l1))] ⟨rfl, rfl, trivial⟩ ?_
  unfold C_rootAt4 at hW
  refine pq_l (pc' := 1) rfl rfl rfl rfl rfl ?_
  refine pq_gr (pc' := 4) (c := 83) (v := 83) rfl rfl rfl rfl rfl rfl hv ?_
  refine pq_gr (pc' := 7) (c := 310) (v := 310) rfl rfl rfl rfl rfl rfl hv ?_
  refine pq_l (pc' := 8) rfl rfl rfl rfl rfl ?_
  refine pq_gr (pc' := 11) (c := 577) (v := 577) rfl rfl rfl rfl rfl rfl hv ?_
  refine pq_k (pc' := 12) (v := (0, 0)) rfl rfl rfl (fun _ => rfl) ?_
  refine pq_l (pc' := 13) rfl rfl rfl rfl rfl ?_
  refine pq_k (pc' := 15) (v := (0, 79)) rfl rfl rfl (fun _ => rfl) ?_
  refine pq_cSI (pc' := 18) rfl rfl rfl rfl rfl (c_J9_min_7cf53 L ys d s hv l1 l1r 79 (⟨by decide, by decide⟩ : iR 79) _ hW) (fun z2 s1 hr => ?_)
  obtain ⟨s1v, z2r, hW⟩ := hr
  refine pq_cSI (pc' := 21) rfl rfl rfl rfl rfl (c_J9_max_7cf53 L ys d s1 s1v 0 (⟨by decide, by decide⟩ : iR 0) z2 z2r _ hW) (fun z4 s3 hr => ?_)
  obtain ⟨s3v, z4r, hW⟩ := hr
  refine pq_ia (pc' := 22) rfl rfl (fun r5a r5b r5 => ?_)
  have hW := hW ⟨⟨r5a, r5b⟩, r5⟩
  refine pq_aa (pc' := 23) (b := 311) (k := 3) (n := 80) (m := 80) rfl rfl rfl rfl rfl s3v (fun r6a r6b => ?_)
  exact pq_aret rfl ⟨_, rfl, s3v, (⟨by omega, by omega⟩ : nb ((311 + 3 * ((cga s3 577 z4)).toNat) + 1)), hW⟩
def C_insert4_107 (l1 : Int) (l3 : Int) (s : im_S) (Q : im_S → Prop) : Prop := ((0 ≤ l3 ∧ l3 < gln 577) → ∀ s1, s1 = cpa s 577 l3 l1 → (∀ s3, s3 = cpf s1 1 4 (w32 ((cgf s1 1 4) + 1)) → (Q s3)))
def C_insert4_79 (K25 : Int × im_S → Prop) (l1 : Int) (l2 : Nat) (l3 : Int) (l5 : Int) (s : im_S) (Q : im_S → Prop) : Prop := ((l5 < 0 → (caI s 577 (w32 (l3 - 1)) → ((0 ≤ l3 ∧ l3 < gln 577) → ∀ s6, s6 = cpa s 577 l3 (cga s 577 (w32 (l3 - 1))) → (K25 ((w32 (l3 + (-1))), s6))))) ∧ (¬ (l5 < 0) → (C_insert4_107 l1 l3 s Q)))
def C_insert4_25 (K25 : Int × im_S → Prop) (l1 : Int) (l2 : Nat) (l3 : Int) (s : im_S) (Q : im_S → Prop) : Prop := ((l3 ≤ 0 → (C_insert4_107 l1 l3 s Q)) ∧ (¬ (l3 ≤ 0) → (C_rootAt4 (w32 (l3 - 1)) s (fun z10 s9 => (C_compareQuickly3 l2 z10 s9 (fun z12 s11 => ((¬ (z12 = 0) → (C_insert4_79 K25 l1 l2 l3 z12 s11 Q)) ∧ (z12 = 0 → (((cgf s11 l2 0) = (cgf s11 z10 0) → (C_insert4_79 K25 l1 l2 l3 z12 s11 Q)) ∧ (¬ ((cgf s11 l2 0) = (cgf s11 z10 0)) → (C_compareDeeply3 l2 z10 s11 (fun z18 s17 => (C_insert4_79 K25 l1 l2 l3 z18 s17 Q)))))))))))))
def C_insert4 (l1 : Int) (s : im_S) (Q : im_S → Prop) : Prop := (((cgf s 1 4) < 80 → (ploop (fun (K : Int × im_S → Prop) (a : Int × im_S) => C_insert4_25 K l1 (311 + 3 * (l1).toNat) a.1 a.2 Q) ((cgf s 1 4), s))) ∧ (¬ ((cgf s 1 4) < 80) → (Q s)))
set_option maxRecDepth 16384 in
theorem c_insert4 (L : Nat) (ys : Nat → Int32) (d : Nat) (s : im_S) (hv : jI s) (l1 : Int) (l1r : iR l1) (Q : im_S → Prop) (hW : C_insert4 l1 s Q) : pcV L ys d 155 [(2, ((1 : Nat) : Int)), (0, l1)] s (fun s9 => jI s9 ∧ Q s9) := by
  intro res hres
  refine pq_start (M := rm_p_X4_insert) (Q := (fun r : im_Re => r.1 = none ∧ (jI r.2 ∧ Q r.2))) om_X4_insert (fun d N => ?_) res hres
  refine pq_w [(0, (2, ((1 : Nat) : Int))), (1, (0, l1))] ⟨rfl, rfl, trivial⟩ ?_
  have J107 : ∀ N107 : Nat, N107 ≤ N → ∀ (l1 : Int) (l1r : iR l1) (l3 : Int) (l3r : iR l3) (s : im_S) (hv : jI s), C_insert4_107 l1 l3 s Q → pq L ys d N107 rm_p_X4_insert (107, [(0, (2, ((1 : Nat) : Int))), (1, (0, l1)), (3, (0, l3))], [], s) (fun r : im_Re => r.1 = none ∧ (jI r.2 ∧ Q r.2)) := by
    intro N107 hN107 l1 l1r l3 l3r s hv hW
    unfold C_insert4_107 at hW
    refine pq_l (pc' := 108) rfl rfl rfl rfl rfl ?_
    refine pq_gr (pc' := 111) (c := 577) (v := 577) rfl rfl rfl rfl rfl rfl hv ?_
    refine pq_l (pc' := 112) rfl rfl rfl rfl rfl ?_
    refine pq_l (pc' := 113) rfl rfl rfl rfl rfl ?_
    refine pq_is (pc' := 114) rfl rfl (by decide) (by decide) hv (fun s1a s1b s1 s1e s1v => ?_)
    have hW := hW ⟨s1a, s1b⟩ s1 s1e
    refine pq_l (pc' := 115) rfl rfl rfl rfl rfl ?_
    refine pq_x (pc' := 116) rfl rfl rfl (fun _ => rfl) ?_
    refine pq_gi (pc' := 119) rfl rfl rfl rfl rfl (fun r2 => ?_)
    refine pq_k (pc' := 120) (v := (0, 1)) rfl rfl rfl (fun _ => rfl) ?_
    refine pq_add (pc' := 121) rfl rfl ?_
    refine pq_pX (pc' := 124) rfl rfl rfl rfl (fun e => absurd e (by decide)) (fun e => absurd e (by decide)) s1v (fun s3 s3e s3v => ?_)
    have hW := hW s3 s3e
    exact pq_vret rfl ⟨rfl, s3v, hW⟩
  have J25 : ∀ (l1 : Int) (l1r : iR l1) (l2 : Nat) (l2n : nb (l2 + 1)) (I25 : Int × im_S → Prop) (hB25 : ∀ a : Int × im_S, I25 a → C_insert4_25 I25 l1 l2 a.1 a.2 Q), ∀ N25 : Nat, N25 ≤ N → ∀ (l3 : Int) (l3r : iR l3) (s : im_S) (hv : jI s), I25 (l3, s) → pq L ys d N25 rm_p_X4_insert (25, [(0, (2, ((1 : Nat) : Int))), (1, (0, l1)), (2, (2, ((l2 : Nat) : Int))), (3, (0, l3))], [], s) (fun r : im_Re => r.1 = none ∧ (jI r.2 ∧ Q r.2)) := by
    intro l1 l1r l2 l2n I25 hB25 N25
    induction N25 using Nat.strongRecOn with
    | _ N25 ih25 =>
      intro hN25 l3 l3r s hv hI
      have hW : C_insert4_25 I25 l1 l2 l3 s Q := hB25 (l3, s) hI
      have J79 : ∀ N79 : Nat, N79 ≤ N25 → ∀ (l3 : Int) (l3r : iR l3) (l5 : Int) (l5r : iR l5) (s : im_S) (hv : jI s), C_insert4_79 I25 l1 l2 l3 l5 s Q → pq L ys d N79 rm_p_X4_insert (79, [(0, (2, ((1 : Nat) : Int))), (1, (0, l1)), (2, (2, ((l2 : Nat) : Int))), (3, (0, l3)), (5, (0, l5))], [], s) (fun r : im_Re => r.1 = none ∧ (jI r.2 ∧ Q r.2)) := by
        intro N79 hN79 l3 l3r l5 l5r s hv hW
        unfold C_insert4_79 at hW
        refine pq_l (pc' := 81) rfl rfl rfl rfl rfl ?_
        refine pq_z_lt (pt := 87) (pc' := 84) rfl rfl rfl (fun c4 => ?_) (fun c4 => ?_)
        · have hW := hW.1 c4
          refine pq_l (pc' := 88) rfl rfl rfl rfl rfl ?_
          refine pq_gr (pc' := 91) (c := 577) (v := 577) rfl rfl rfl rfl rfl rfl hv ?_
          refine pq_l (pc' := 92) rfl rfl rfl rfl rfl ?_
          refine pq_l (pc' := 93) rfl rfl rfl rfl rfl ?_
          refine pq_gr (pc' := 96) (c := 577) (v := 577) rfl rfl rfl rfl rfl rfl hv ?_
          refine pq_l (pc' := 97) rfl rfl rfl rfl rfl ?_
          refine pq_k (pc' := 98) (v := (0, 1)) rfl rfl rfl (fun _ => rfl) ?_
          refine pq_sub (pc' := 99) rfl rfl ?_
          refine pq_ia (pc' := 100) rfl rfl (fun r5a r5b r5 => ?_)
          have hW := hW ⟨⟨r5a, r5b⟩, r5⟩
          refine pq_is (pc' := 101) rfl rfl (by decide) (by decide) hv (fun s6a s6b s6 s6e s6v => ?_)
          have hW := hW ⟨s6a, s6b⟩ s6 s6e
          refine pq_inc (pc' := 104) rfl rfl rfl rfl ?_
          refine pq_gotoT (pc' := 25) rfl rfl (fun m7 m7l => ?_)
          refine pq_w [(0, (2, ((1 : Nat) : Int))), (1, (0, l1)), (2, (2, ((l2 : Nat) : Int))), (3, (0, (w32 (l3 + (-1)))))] ⟨rfl, rfl, rfl, rfl, trivial⟩ ?_
          exact ih25 m7 (by omega) (by omega) (w32 (l3 + (-1))) (w32_r _) s6 s6v hW
        · have hW := hW.2 c4
          refine pq_goto (pc' := 107) rfl rfl ?_
          refine pq_w [(0, (2, ((1 : Nat) : Int))), (1, (0, l1)), (3, (0, l3))] ⟨rfl, rfl, rfl, trivial⟩ ?_
          exact J107 N79 (by omega) l1 l1r l3 l3r s hv hW
      unfold C_insert4_25 at hW
      refine pq_l (pc' := 26) rfl rfl rfl rfl rfl ?_
      refine pq_z_le (pt := 107) (pc' := 29) rfl rfl rfl (fun c8 => ?_) (fun c8 => ?_)
      · have hW := hW.1 c8
        refine pq_w [(0, (2, ((1 : Nat) : Int))), (1, (0, l1)), (3, (0, l3))] ⟨rfl, rfl, rfl, trivial⟩ ?_
        exact J107 N25 (by omega) l1 l1r l3 l3r s hv hW
      · have hW := hW.2 c8
        refine pq_l (pc' := 30) rfl rfl rfl rfl rfl ?_
        refine pq_l (pc' := 31) rfl rfl rfl rfl rfl ?_
        refine pq_k (pc' := 32) (v := (0, 1)) rfl rfl rfl (fun _ => rfl) ?_
        refine pq_sub (pc' := 33) rfl rfl ?_
        refine pq_cVR (pc' := 36) rfl rfl rfl rfl rfl (c_rootAt4 L ys d s hv (w32 (l3 - 1)) (w32_r _) _ hW) (fun z10 s9 hr => ?_)
        obtain ⟨s9v, z10n, hW⟩ := hr
        refine pq_s (pc' := 38) rfl rfl rfl rfl rfl ?_
        refine pq_l (pc' := 39) rfl rfl rfl rfl rfl ?_
        refine pq_gr (pc' := 42) (c := 83) (v := 83) rfl rfl rfl rfl rfl rfl s9v ?_
        refine pq_l (pc' := 43) rfl rfl rfl rfl rfl ?_
        refine pq_l (pc' := 45) rfl rfl rfl rfl rfl ?_
        refine pq_cVI (pc' := 48) rfl rfl rfl rfl rfl (c_compareQuickly3 L ys d s9 s9v l2 z10 _ hW) (fun z12 s11 hr => ?_)
        obtain ⟨s11v, z12r, hW⟩ := hr
        refine pq_s (pc' := 50) rfl rfl rfl rfl rfl ?_
        refine pq_l (pc' := 52) rfl rfl rfl rfl rfl ?_
        refine pq_z_ne (pt := 79) (pc' := 55) rfl rfl rfl (fun c13 => ?_) (fun c13 => ?_)
        · have hW := hW.1 c13
          refine pq_w [(0, (2, ((1 : Nat) : Int))), (1, (0, l1)), (2, (2, ((l2 : Nat) : Int))), (3, (0, l3)), (5, (0, z12))] ⟨rfl, rfl, rfl, rfl, rfl, trivial⟩ ?_
          exact J79 N25 (by omega) l3 l3r z12 z12r s11 s11v hW
        · have hW := hW.2 c13
          refine pq_l (pc' := 56) rfl rfl rfl rfl rfl ?_
          refine pq_gi (pc' := 59) rfl rfl rfl rfl rfl (fun r14 => ?_)
          refine pq_l (pc' := 61) rfl rfl rfl rfl rfl ?_
          refine pq_gi (pc' := 64) rfl rfl rfl rfl rfl (fun r15 => ?_)
          refine pq_c_eq (pt := 79) (pc' := 67) rfl rfl rfl (fun c16 => ?_) (fun c16 => ?_)
          · have hW := hW.1 c16
            refine pq_w [(0, (2, ((1 : Nat) : Int))), (1, (0, l1)), (2, (2, ((l2 : Nat) : Int))), (3, (0, l3)), (5, (0, z12))] ⟨rfl, rfl, rfl, rfl, rfl, trivial⟩ ?_
            exact J79 N25 (by omega) l3 l3r z12 z12r s11 s11v hW
          · have hW := hW.2 c16
            refine pq_l (pc' := 68) rfl rfl rfl rfl rfl ?_
            refine pq_gr (pc' := 71) (c := 83) (v := 83) rfl rfl rfl rfl rfl rfl s11v ?_
            refine pq_l (pc' := 72) rfl rfl rfl rfl rfl ?_
            refine pq_l (pc' := 74) rfl rfl rfl rfl rfl ?_
            refine pq_cVI (pc' := 77) rfl rfl rfl rfl rfl (c_compareDeeply3 L ys d s11 s11v l2 l2n z10 z10n _ hW) (fun z18 s17 hr => ?_)
            obtain ⟨s17v, z18r, hW⟩ := hr
            refine pq_s (pc' := 79) rfl rfl rfl rfl rfl ?_
            refine pq_w [(0, (2, ((1 : Nat) : Int))), (1, (0, l1)), (2, (2, ((l2 : Nat) : Int))), (3, (0, l3)), (5, (0, z18))] ⟨rfl, rfl, rfl, rfl, rfl, trivial⟩ ?_
            exact J79 N25 (by omega) l3 l3r z18 z18r s17 s17v hW
  unfold C_insert4 at hW
  refine pq_l (pc' := 1) rfl rfl rfl rfl rfl ?_
  refine pq_gi (pc' := 4) rfl rfl rfl rfl rfl (fun r19 => ?_)
  refine pq_k (pc' := 6) (v := (0, 80)) rfl rfl rfl (fun _ => rfl) ?_
  refine pq_c_lt (pt := 10) (pc' := 9) rfl rfl rfl (fun c20 => ?_) (fun c20 => ?_)
  · have hW := hW.1 c20
    refine pq_l (pc' := 11) rfl rfl rfl rfl rfl ?_
    refine pq_gr (pc' := 14) (c := 83) (v := 83) rfl rfl rfl rfl rfl rfl hv ?_
    refine pq_gr (pc' := 17) (c := 310) (v := 310) rfl rfl rfl rfl rfl rfl hv ?_
    refine pq_l (pc' := 18) rfl rfl rfl rfl rfl ?_
    refine pq_aa (pc' := 19) (b := 311) (k := 3) (n := 80) (m := 80) rfl rfl rfl rfl rfl hv (fun r21a r21b => ?_)
    refine pq_s (pc' := 20) rfl rfl rfl rfl rfl ?_
    refine pq_l (pc' := 21) rfl rfl rfl rfl rfl ?_
    refine pq_gi (pc' := 24) rfl rfl rfl rfl rfl (fun r22 => ?_)
    refine pq_s (pc' := 25) rfl rfl rfl rfl rfl ?_
    refine pq_w [(0, (2, ((1 : Nat) : Int))), (1, (0, l1)), (2, (2, (((311 + 3 * (l1).toNat) : Nat) : Int))), (3, (0, (cgf s 1 4)))] ⟨rfl, rfl, rfl, rfl, trivial⟩ ?_
    obtain ⟨I9, hI9, hB9⟩ := hW
    exact J25 l1 l1r (311 + 3 * (l1).toNat) (⟨by omega, by omega⟩ : nb ((311 + 3 * (l1).toNat) + 1)) I9 hB9 N (by omega) (cgf s 1 4) r22 s hv hI9
  · have hW := hW.2 c20
    exact pq_vret rfl ⟨rfl, hv, hW⟩
