/-! find of the Divider, with the primes by value -/
def prq (z i : Int) : Prop := prz z ∧ z = prmv i.toNat
section PRV
variable {L : Nat} {ys : Nat → Int32} {d N : Nat} {M : rm_M} {pc pc' : Nat} {lv : List (Nat × im_V)} {st : List im_V} {s : im_S} {Q : im_Re → Prop}
theorem pq_prv {i : Int} (hf : rm_find M.1 pc = some (.iaload, 1)) (hp : pc + 1 = pc') (h : ∀ z : Int, prq z i → pq L ys d N M (pc', lv, (0, z) :: st, s) Q) : pq L ys d N M (pc, lv, (0, i) :: (4, 6) :: st, s) Q := by
  subst hp
  refine pq_i (C := im_in i rm_zN = true) (s' := s) hf rfl rfl (fun lv r hr => ?_) (fun hc => h ((rm_zV.getD i.toNat 0).toInt) ⟨prz_at ?_, rfl⟩)
  · have hr : (if im_in i rm_zN then some (pc + 1, lv, (0, (rm_zV.getD i.toNat 0).toInt) :: st, s) else none) = some r := hr
    split at hr
    · rename_i c
      cases hr; exact ⟨rfl, c⟩
    · cases hr
  · unfold im_in at hc
    simp at hc
    omega
end PRV
def C_find2v_140 (K30 : Int × Int × im_S → Prop) (l1 : Nat) (l2 : Nat) (l4 : Int) (l5 : Int) (s : im_S) (Q : im_S → Prop) : Prop := (∀ s1, s1 = cpf s 247 3 (((crf s 247 4) : Nat) : Int) → (∀ s2, s2 = cpf s1 247 4 (((crf s 247 3) : Nat) : Int) → (K30 (l5, (w32 (l4 + 1)), s2))))
def C_find2v_30 (K30 : Int × Int × im_S → Prop) (l1 : Nat) (l2 : Nat) (l3 : Int) (l4 : Int) (s : im_S) (Q : im_S → Prop) : Prop := ((44 ≤ l4 → (Q s)) ∧ (¬ (44 ≤ l4) → (∀ z5 : Int, prq z5 l4 → (C_imageModulo2 l1 l2 z5 s (fun z7 s6 => ((¬ (z7 = 0) → ((l4 ≤ 0 → (C_find2v_140 K30 l1 l2 l4 z7 s6 Q)) ∧ (¬ (l4 ≤ 0) → ((¬ (z7 = l3) → (C_find2v_140 K30 l1 l2 l4 z7 s6 Q)) ∧ (z7 = l3 → (C_lead6 l1 s6 (fun z12 s11 => (C_lead6 l2 s11 (fun z14 s13 => (C_gcd6 z12 z14 s13 (fun z16 s15 => (∀ z17 : Int, prq z17 (w32 (l4 - 1)) → (∀ z18 : Int, prq z18 l4 → (C_rebuild2 z16 z7 z17 z18 s15 (fun s19 => (C_divide2 l1 253 s19 (fun z22 s21 => ((z22 = 0 → (C_find2v_140 K30 l1 l2 l4 z7 s21 Q)) ∧ (¬ (z22 = 0) → (C_divide2 l2 253 s21 (fun z25 s24 => ((z25 = 0 → (C_find2v_140 K30 l1 l2 l4 z7 s24 Q)) ∧ (¬ (z25 = 0) → (C_copy6 255 253 s24 (fun s27 => (Q s27)))))))))))))))))))))))))) ∧ (z7 = 0 → (Q s6))))))))
def C_find2v_24 (s : im_S) (Q : im_S → Prop) : Prop := (Q s)
def C_find2v (l1 : Nat) (l2 : Nat) (s : im_S) (Q : im_S → Prop) : Prop := (C_setConstant6 255 1 s (fun s29 => (((cgf s29 l1 0) < 1 → (C_find2v_24 s29 Q)) ∧ (¬ ((cgf s29 l1 0) < 1) → ((1 ≤ (cgf s29 l2 0) → (ploop (fun (K : Int × Int × im_S → Prop) (a : Int × Int × im_S) => C_find2v_30 K l1 l2 a.1 a.2.1 a.2.2 Q) ((-1), 0, s29))) ∧ (¬ (1 ≤ (cgf s29 l2 0)) → (C_find2v_24 s29 Q)))))))
set_option maxRecDepth 16384 in
theorem c_find2v (L : Nat) (ys : Nat → Int32) (d : Nat) (s : im_S) (hv : jI s) (l1 : Nat) (l2 : Nat) (Q : im_S → Prop) (hW : C_find2v l1 l2 s Q) : pcV L ys d 126 [(2, ((247 : Nat) : Int)), (2, ((l1 : Nat) : Int)), (2, ((l2 : Nat) : Int))] s (fun s9 => jI s9 ∧ Q s9) := by
  intro res hres
  refine pq_start (M := rm_p_X2_find) (Q := (fun r : im_Re => r.1 = none ∧ (jI r.2 ∧ Q r.2))) om_X2_find (fun d N => ?_) res hres
  refine pq_w [(0, (2, ((247 : Nat) : Int))), (1, (2, ((l1 : Nat) : Int))), (2, (2, ((l2 : Nat) : Int)))] ⟨rfl, rfl, rfl, trivial⟩ ?_
  have J30 : ∀ (l1 : Nat) (l2 : Nat) (I30 : Int × Int × im_S → Prop) (hB30 : ∀ a : Int × Int × im_S, I30 a → C_find2v_30 I30 l1 l2 a.1 a.2.1 a.2.2 Q), ∀ N30 : Nat, N30 ≤ N → ∀ (l3 : Int) (l3r : iR l3) (l4 : Int) (l4r : iR l4) (s : im_S) (hv : jI s), I30 (l3, l4, s) → pq L ys d N30 rm_p_X2_find (30, [(0, (2, ((247 : Nat) : Int))), (1, (2, ((l1 : Nat) : Int))), (2, (2, ((l2 : Nat) : Int))), (3, (0, l3)), (4, (0, l4))], [], s) (fun r : im_Re => r.1 = none ∧ (jI r.2 ∧ Q r.2)) := by
    intro l1 l2 I30 hB30 N30
    induction N30 using Nat.strongRecOn with
    | _ N30 ih30 =>
      intro hN30 l3 l3r l4 l4r s hv hI
      have hW : C_find2v_30 I30 l1 l2 l3 l4 s Q := hB30 (l3, l4, s) hI
      have J140 : ∀ N140 : Nat, N140 ≤ N30 → ∀ (l4 : Int) (l4r : iR l4) (l5 : Int) (l5r : iR l5) (s : im_S) (hv : jI s), C_find2v_140 I30 l1 l2 l4 l5 s Q → pq L ys d N140 rm_p_X2_find (140, [(0, (2, ((247 : Nat) : Int))), (1, (2, ((l1 : Nat) : Int))), (2, (2, ((l2 : Nat) : Int))), (4, (0, l4)), (5, (0, l5))], [], s) (fun r : im_Re => r.1 = none ∧ (jI r.2 ∧ Q r.2)) := by
        intro N140 hN140 l4 l4r l5 l5r s hv hW
        unfold C_find2v_140 at hW
        refine pq_l (pc' := 142) rfl rfl rfl rfl rfl ?_
        refine pq_s (pc' := 143) rfl rfl rfl rfl rfl ?_
        refine pq_l (pc' := 144) rfl rfl rfl rfl rfl ?_
        refine pq_gm (pc' := 147) rfl rfl rfl rfl (jI_d0 hv).1 ?_
        refine pq_s (pc' := 149) rfl rfl rfl rfl rfl ?_
        refine pq_l (pc' := 150) rfl rfl rfl rfl rfl ?_
        refine pq_l (pc' := 151) rfl rfl rfl rfl rfl ?_
        refine pq_gm (pc' := 154) rfl rfl rfl rfl (jI_d0 hv).2 ?_
        refine pq_pX (pc' := 157) rfl rfl rfl rfl (fun e => absurd e (by decide)) (fun _ => (jI_d hv).2) hv (fun s1 s1e s1v => ?_)
        have hW := hW s1 s1e
        refine pq_l (pc' := 158) rfl rfl rfl rfl rfl ?_
        refine pq_l (pc' := 160) rfl rfl rfl rfl rfl ?_
        refine pq_pX (pc' := 163) rfl rfl rfl rfl (fun e => absurd e (by decide)) (fun _ => (jI_d hv).1) s1v (fun s2 s2e s2v => ?_)
        have hW := hW s2 s2e
        refine pq_inc (pc' := 166) rfl rfl rfl rfl ?_
        refine pq_gotoT (pc' := 30) rfl rfl (fun m3 m3l => ?_)
        refine pq_w [(0, (2, ((247 : Nat) : Int))), (1, (2, ((l1 : Nat) : Int))), (2, (2, ((l2 : Nat) : Int))), (3, (0, l5)), (4, (0, (w32 (l4 + 1))))] ⟨rfl, rfl, rfl, rfl, rfl, trivial⟩ ?_
        exact ih30 m3 (by omega) (by omega) l5 l5r (w32 (l4 + 1)) (w32_r _) s2 s2v hW
      unfold C_find2v_30 at hW
      refine pq_l (pc' := 32) rfl rfl rfl rfl rfl ?_
      refine pq_k (pc' := 35) (v := (4, 6)) rfl rfl rfl (fun _ => rfl) ?_
      refine pq_prl (pc' := 36) rfl rfl ?_
      refine pq_c_ge (pt := 169) (pc' := 39) rfl rfl rfl (fun c4 => ?_) (fun c4 => ?_)
      · have hW := hW.1 c4
        exact pq_vret rfl ⟨rfl, hv, hW⟩
      · have hW := hW.2 c4
        refine pq_l (pc' := 40) rfl rfl rfl rfl rfl ?_
        refine pq_l (pc' := 41) rfl rfl rfl rfl rfl ?_
        refine pq_l (pc' := 42) rfl rfl rfl rfl rfl ?_
        refine pq_k (pc' := 45) (v := (4, 6)) rfl rfl rfl (fun _ => rfl) ?_
        refine pq_l (pc' := 47) rfl rfl rfl rfl rfl ?_
        refine pq_prv (pc' := 48) rfl rfl (fun z5 z5p => ?_)
        have z5r := prz_i z5p.1
        have hW := hW z5 z5p
        refine pq_i2l (pc' := 49) rfl rfl z5r ?_
        refine pq_cVI (pc' := 52) rfl rfl rfl rfl rfl (c_imageModulo2 L ys d s hv l1 l2 z5 (iR_l z5r) _ hW) (fun z7 s6 hr => ?_)
        obtain ⟨s6v, z7r, hW⟩ := hr
        refine pq_s (pc' := 54) rfl rfl rfl rfl rfl ?_
        refine pq_l (pc' := 56) rfl rfl rfl rfl rfl ?_
        refine pq_z_ne (pt := 60) (pc' := 59) rfl rfl rfl (fun c8 => ?_) (fun c8 => ?_)
        · have hW := hW.1 c8
          refine pq_l (pc' := 62) rfl rfl rfl rfl rfl ?_
          refine pq_z_le (pt := 140) (pc' := 65) rfl rfl rfl (fun c9 => ?_) (fun c9 => ?_)
          · have hW := hW.1 c9
            refine pq_w [(0, (2, ((247 : Nat) : Int))), (1, (2, ((l1 : Nat) : Int))), (2, (2, ((l2 : Nat) : Int))), (4, (0, l4)), (5, (0, z7))] ⟨rfl, rfl, rfl, rfl, rfl, trivial⟩ ?_
            exact J140 N30 (by omega) l4 l4r z7 z7r s6 s6v hW
          · have hW := hW.2 c9
            refine pq_l (pc' := 67) rfl rfl rfl rfl rfl ?_
            refine pq_l (pc' := 68) rfl rfl rfl rfl rfl ?_
            refine pq_c_ne (pt := 140) (pc' := 71) rfl rfl rfl (fun c10 => ?_) (fun c10 => ?_)
            · have hW := hW.1 c10
              refine pq_w [(0, (2, ((247 : Nat) : Int))), (1, (2, ((l1 : Nat) : Int))), (2, (2, ((l2 : Nat) : Int))), (4, (0, l4)), (5, (0, z7))] ⟨rfl, rfl, rfl, rfl, rfl, trivial⟩ ?_
              exact J140 N30 (by omega) l4 l4r z7 z7r s6 s6v hW
            · have hW := hW.2 c10
              refine pq_l (pc' := 72) rfl rfl rfl rfl rfl ?_
              refine pq_l (pc' := 73) rfl rfl rfl rfl rfl ?_
              refine pq_cVI (pc' := 76) rfl rfl rfl rfl rfl (c_lead6 L ys d s6 s6v l1 _ hW) (fun z12 s11 hr => ?_)
              obtain ⟨s11v, z12r, hW⟩ := hr
              refine pq_l (pc' := 77) rfl rfl rfl rfl rfl ?_
              refine pq_cVI (pc' := 80) rfl rfl rfl rfl rfl (c_lead6 L ys d s11 s11v l2 _ hW) (fun z14 s13 hr => ?_)
              obtain ⟨s13v, z14r, hW⟩ := hr
              refine pq_cSI (pc' := 83) rfl rfl rfl rfl rfl (c_gcd6 L ys d s13 s13v z12 z12r z14 z14r _ hW) (fun z16 s15 hr => ?_)
              obtain ⟨s15v, z16r, hW⟩ := hr
              refine pq_l (pc' := 85) rfl rfl rfl rfl rfl ?_
              refine pq_k (pc' := 88) (v := (4, 6)) rfl rfl rfl (fun _ => rfl) ?_
              refine pq_l (pc' := 90) rfl rfl rfl rfl rfl ?_
              refine pq_k (pc' := 91) (v := (0, 1)) rfl rfl rfl (fun _ => rfl) ?_
              refine pq_sub (pc' := 92) rfl rfl ?_
              refine pq_prv (pc' := 93) rfl rfl (fun z17 z17p => ?_)
              have z17r := prz_i z17p.1
              have hW := hW z17 z17p
              refine pq_i2l (pc' := 94) rfl rfl z17r ?_
              refine pq_k (pc' := 97) (v := (4, 6)) rfl rfl rfl (fun _ => rfl) ?_
              refine pq_l (pc' := 99) rfl rfl rfl rfl rfl ?_
              refine pq_prv (pc' := 100) rfl rfl (fun z18 z18p => ?_)
              have z18r := prz_i z18p.1
              have hW := hW z18 z18p
              refine pq_i2l (pc' := 101) rfl rfl z18r ?_
              refine pq_cVV (pc' := 104) rfl rfl rfl rfl rfl (c_rebuild2 L ys d s15 s15v z16 z16r z7 z7r z17 (iR_l z17r) z18 (iR_l z18r) _ hW) (fun s19 hr => ?_)
              obtain ⟨s19v, hW⟩ := hr
              refine pq_l (pc' := 105) rfl rfl rfl rfl rfl ?_
              refine pq_l (pc' := 106) rfl rfl rfl rfl rfl ?_
              refine pq_l (pc' := 107) rfl rfl rfl rfl rfl ?_
              refine pq_gr (pc' := 110) (c := 253) (v := 253) rfl rfl rfl rfl rfl rfl s19v ?_
              refine pq_cVI (pc' := 113) rfl rfl rfl rfl rfl (c_divide2 L ys d s19 s19v l1 253 _ hW) (fun z22 s21 hr => ?_)
              obtain ⟨s21v, z22r, hW⟩ := hr
              refine pq_z_eq (pt := 140) (pc' := 116) rfl rfl rfl (fun c23 => ?_) (fun c23 => ?_)
              · have hW := hW.1 c23
                refine pq_w [(0, (2, ((247 : Nat) : Int))), (1, (2, ((l1 : Nat) : Int))), (2, (2, ((l2 : Nat) : Int))), (4, (0, l4)), (5, (0, z7))] ⟨rfl, rfl, rfl, rfl, rfl, trivial⟩ ?_
                exact J140 N30 (by omega) l4 l4r z7 z7r s21 s21v hW
              · have hW := hW.2 c23
                refine pq_l (pc' := 117) rfl rfl rfl rfl rfl ?_
                refine pq_l (pc' := 118) rfl rfl rfl rfl rfl ?_
                refine pq_l (pc' := 119) rfl rfl rfl rfl rfl ?_
                refine pq_gr (pc' := 122) (c := 253) (v := 253) rfl rfl rfl rfl rfl rfl s21v ?_
                refine pq_cVI (pc' := 125) rfl rfl rfl rfl rfl (c_divide2 L ys d s21 s21v l2 253 _ hW) (fun z25 s24 hr => ?_)
                obtain ⟨s24v, z25r, hW⟩ := hr
                refine pq_z_eq (pt := 140) (pc' := 128) rfl rfl rfl (fun c26 => ?_) (fun c26 => ?_)
                · have hW := hW.1 c26
                  refine pq_w [(0, (2, ((247 : Nat) : Int))), (1, (2, ((l1 : Nat) : Int))), (2, (2, ((l2 : Nat) : Int))), (4, (0, l4)), (5, (0, z7))] ⟨rfl, rfl, rfl, rfl, rfl, trivial⟩ ?_
                  exact J140 N30 (by omega) l4 l4r z7 z7r s24 s24v hW
                · have hW := hW.2 c26
                  refine pq_l (pc' := 129) rfl rfl rfl rfl rfl ?_
                  refine pq_gr (pc' := 132) (c := 255) (v := 255) rfl rfl rfl rfl rfl rfl s24v ?_
                  refine pq_l (pc' := 133) rfl rfl rfl rfl rfl ?_
                  refine pq_gr (pc' := 136) (c := 253) (v := 253) rfl rfl rfl rfl rfl rfl s24v ?_
                  refine pq_cVV (pc' := 139) rfl rfl rfl rfl rfl (c_copy6 L ys d s24 s24v 255 253 _ hW) (fun s27 hr => ?_)
                  obtain ⟨s27v, hW⟩ := hr
                  exact pq_vret rfl ⟨rfl, s27v, hW⟩
        · have hW := hW.2 c8
          exact pq_vret rfl ⟨rfl, s6v, hW⟩
  have J24 : ∀ N24 : Nat, N24 ≤ N → ∀ (s : im_S) (hv : jI s), C_find2v_24 s Q → pq L ys d N24 rm_p_X2_find (24, [], [], s) (fun r : im_Re => r.1 = none ∧ (jI r.2 ∧ Q r.2)) := by
    intro N24 hN24 s hv hW
    unfold C_find2v_24 at hW
    exact pq_vret rfl ⟨rfl, hv, hW⟩
  unfold C_find2v at hW
  refine pq_l (pc' := 1) rfl rfl rfl rfl rfl ?_
  refine pq_gr (pc' := 4) (c := 255) (v := 255) rfl rfl rfl rfl rfl rfl hv ?_
  refine pq_k (pc' := 5) (v := (1, 1)) rfl rfl rfl (fun _ => rfl) ?_
  refine pq_cVV (pc' := 8) rfl rfl rfl rfl rfl (c_setConstant6 L ys d s hv 255 1 (⟨by decide, by decide⟩ : lR 1) _ hW) (fun s29 hr => ?_)
  obtain ⟨s29v, hW⟩ := hr
  refine pq_l (pc' := 9) rfl rfl rfl rfl rfl ?_
  refine pq_gi (pc' := 12) rfl rfl rfl rfl rfl (fun r31 => ?_)
  refine pq_k (pc' := 13) (v := (0, 1)) rfl rfl rfl (fun _ => rfl) ?_
  refine pq_c_lt (pt := 24) (pc' := 16) rfl rfl rfl (fun c32 => ?_) (fun c32 => ?_)
  · have hW := hW.1 c32
    refine pq_w [] trivial ?_
    exact J24 N (by omega) s29 s29v hW
  · have hW := hW.2 c32
    refine pq_l (pc' := 17) rfl rfl rfl rfl rfl ?_
    refine pq_gi (pc' := 20) rfl rfl rfl rfl rfl (fun r33 => ?_)
    refine pq_k (pc' := 21) (v := (0, 1)) rfl rfl rfl (fun _ => rfl) ?_
    refine pq_c_ge (pt := 25) (pc' := 24) rfl rfl rfl (fun c34 => ?_) (fun c34 => ?_)
    · have hW := hW.1 c34
      refine pq_k (pc' := 26) (v := (0, (-1))) rfl rfl rfl (fun _ => rfl) ?_
      refine pq_s (pc' := 27) rfl rfl rfl rfl rfl ?_
      refine pq_k (pc' := 28) (v := (0, 0)) rfl rfl rfl (fun _ => rfl) ?_
      refine pq_s (pc' := 30) rfl rfl rfl rfl rfl ?_
      refine pq_w [(0, (2, ((247 : Nat) : Int))), (1, (2, ((l1 : Nat) : Int))), (2, (2, ((l2 : Nat) : Int))), (3, (0, (-1))), (4, (0, 0))] ⟨rfl, rfl, rfl, rfl, rfl, trivial⟩ ?_
      obtain ⟨I9, hI9, hB9⟩ := hW
      exact J30 l1 l2 I9 hB9 N (by omega) (-1) (⟨by decide, by decide⟩ : iR (-1)) 0 (⟨by decide, by decide⟩ : iR 0) s29 s29v hI9
    · have hW := hW.2 c34
      refine pq_w [] trivial ?_
      exact J24 N (by omega) s29 s29v hW

