/-! LONG NUMBERS OF THE CLASS, lifted by program -/
def C_trim1_46 (s : im_S) (Q : im_S → Prop) : Prop := (Q s)
def C_trim1_34 (l0 : Nat) (s : im_S) (Q : im_S → Prop) : Prop := ((¬ ((cgf s l0 1) = 0) → (C_trim1_46 s Q)) ∧ ((cgf s l0 1) = 0 → (∀ s3, s3 = cpf s l0 2 0 → (C_trim1_46 s3 Q))))
def C_trim1_0 (K0 : im_S → Prop) (l0 : Nat) (s : im_S) (Q : im_S → Prop) : Prop := (((cgf s l0 1) ≤ 0 → (C_trim1_34 l0 s Q)) ∧ (¬ ((cgf s l0 1) ≤ 0) → (caI s (l0 + 1) (w32 ((cgf s l0 1) - 1)) → ((¬ ((cga s (l0 + 1) (w32 ((cgf s l0 1) - 1))) = 0) → (C_trim1_34 l0 s Q)) ∧ ((cga s (l0 + 1) (w32 ((cgf s l0 1) - 1))) = 0 → (∀ s10, s10 = cpf s l0 1 (w32 ((cgf s l0 1) - 1)) → (K0 (s10))))))))
def C_trim1 (l0 : Nat) (s : im_S) (Q : im_S → Prop) : Prop := (ploop (fun (K : im_S → Prop) (a : im_S) => C_trim1_0 K l0 a Q) (s))
set_option maxRecDepth 16384 in
theorem c_trim1 (L : Nat) (ys : Nat → Int32) (d : Nat) (s : im_S) (hv : jI s) (l0 : Nat) (l0n : nb l0) (Q : im_S → Prop) (hW : C_trim1 l0 s Q) : pcV L ys d 121 [(2, ((l0 : Nat) : Int))] s (fun s9 => jI s9 ∧ Q s9) := by
  intro res hres
  refine pq_start (M := rm_p_X1_trim) (Q := (fun r : im_Re => r.1 = none ∧ (jI r.2 ∧ Q r.2))) om_X1_trim (fun d N => ?_) res hres
  refine pq_w [(0, (2, ((l0 : Nat) : Int)))] ⟨rfl, trivial⟩ ?_
  have J46 : ∀ N46 : Nat, N46 ≤ N → ∀ (s : im_S) (hv : jI s), C_trim1_46 s Q → pq L ys d N46 rm_p_X1_trim (46, [], [], s) (fun r : im_Re => r.1 = none ∧ (jI r.2 ∧ Q r.2)) := by
    intro N46 hN46 s hv hW
    unfold C_trim1_46 at hW
    exact pq_vret rfl ⟨rfl, hv, hW⟩
  have J34 : ∀ N34 : Nat, N34 ≤ N → ∀ (l0 : Nat) (l0n : nb l0) (s : im_S) (hv : jI s), C_trim1_34 l0 s Q → pq L ys d N34 rm_p_X1_trim (34, [(0, (2, ((l0 : Nat) : Int)))], [], s) (fun r : im_Re => r.1 = none ∧ (jI r.2 ∧ Q r.2)) := by
    intro N34 hN34 l0 l0n s hv hW
    unfold C_trim1_34 at hW
    refine pq_l (pc' := 35) rfl rfl rfl rfl rfl ?_
    refine pq_gi (pc' := 38) rfl rfl rfl rfl rfl (fun r1 => ?_)
    refine pq_z_ne (pt := 46) (pc' := 41) rfl rfl rfl (fun c2 => ?_) (fun c2 => ?_)
    · have hW := hW.1 c2
      refine pq_w [] trivial ?_
      exact J46 N34 (by omega) s hv hW
    · have hW := hW.2 c2
      refine pq_l (pc' := 42) rfl rfl rfl rfl rfl ?_
      refine pq_k (pc' := 43) (v := (0, 0)) rfl rfl rfl (fun _ => rfl) ?_
      refine pq_pB (pc' := 46) rfl rfl rfl l0n hv (fun s3 s3e s3v => ?_)
      have hW := hW s3 s3e
      refine pq_w [] trivial ?_
      exact J46 N34 (by omega) s3 s3v hW
  have J0 : ∀ (l0 : Nat) (l0n : nb l0) (I0 : im_S → Prop) (hB0 : ∀ a : im_S, I0 a → C_trim1_0 I0 l0 a Q), ∀ N0 : Nat, N0 ≤ N → ∀ (s : im_S) (hv : jI s), I0 (s) → pq L ys d N0 rm_p_X1_trim (0, [(0, (2, ((l0 : Nat) : Int)))], [], s) (fun r : im_Re => r.1 = none ∧ (jI r.2 ∧ Q r.2)) := by
    intro l0 l0n I0 hB0 N0
    induction N0 using Nat.strongRecOn with
    | _ N0 ih0 =>
      intro hN0 s hv hI
      have hW : C_trim1_0 I0 l0 s Q := hB0 (s) hI
      unfold C_trim1_0 at hW
      refine pq_l (pc' := 1) rfl rfl rfl rfl rfl ?_
      refine pq_gi (pc' := 4) rfl rfl rfl rfl rfl (fun r4 => ?_)
      refine pq_z_le (pt := 34) (pc' := 7) rfl rfl rfl (fun c5 => ?_) (fun c5 => ?_)
      · have hW := hW.1 c5
        refine pq_w [(0, (2, ((l0 : Nat) : Int)))] ⟨rfl, trivial⟩ ?_
        exact J34 N0 (by omega) l0 l0n s hv hW
      · have hW := hW.2 c5
        refine pq_l (pc' := 8) rfl rfl rfl rfl rfl ?_
        refine pq_gr (pc' := 11) (c := (l0 + 1)) (v := 0) rfl rfl rfl rfl rfl rfl hv ?_
        refine pq_l (pc' := 12) rfl rfl rfl rfl rfl ?_
        refine pq_gi (pc' := 15) rfl rfl rfl rfl rfl (fun r6 => ?_)
        refine pq_k (pc' := 16) (v := (0, 1)) rfl rfl rfl (fun _ => rfl) ?_
        refine pq_sub (pc' := 17) rfl rfl ?_
        refine pq_ia (pc' := 18) rfl rfl (fun r7a r7b r7 => ?_)
        have hW := hW ⟨⟨r7a, r7b⟩, r7⟩
        refine pq_z_ne (pt := 34) (pc' := 21) rfl rfl rfl (fun c8 => ?_) (fun c8 => ?_)
        · have hW := hW.1 c8
          refine pq_w [(0, (2, ((l0 : Nat) : Int)))] ⟨rfl, trivial⟩ ?_
          exact J34 N0 (by omega) l0 l0n s hv hW
        · have hW := hW.2 c8
          refine pq_l (pc' := 22) rfl rfl rfl rfl rfl ?_
          refine pq_x (pc' := 23) rfl rfl rfl (fun _ => rfl) ?_
          refine pq_gi (pc' := 26) rfl rfl rfl rfl rfl (fun r9 => ?_)
          refine pq_k (pc' := 27) (v := (0, 1)) rfl rfl rfl (fun _ => rfl) ?_
          refine pq_sub (pc' := 28) rfl rfl ?_
          refine pq_pB (pc' := 31) rfl rfl rfl l0n hv (fun s10 s10e s10v => ?_)
          have hW := hW s10 s10e
          refine pq_gotoT (pc' := 0) rfl rfl (fun m11 m11l => ?_)
          refine pq_w [(0, (2, ((l0 : Nat) : Int)))] ⟨rfl, trivial⟩ ?_
          exact ih0 m11 (by omega) (by omega) s10 s10v hW
  unfold C_trim1 at hW
  refine pq_w [(0, (2, ((l0 : Nat) : Int)))] ⟨rfl, trivial⟩ ?_
  obtain ⟨I9, hI9, hB9⟩ := hW
  exact J0 l0 l0n I9 hB9 N (by omega) s hv hI9
def C_isEven1 (l0 : Nat) (s : im_S) (Q : Int → im_S → Prop) : Prop := (∀ v202 : Int, v202 = (if (cgf s l0 1) = 0 then 1 else (if ¬ ((andI (cga s (l0 + 1) 0) 1) = 0) then 0 else 1)) → (Q v202 s))
set_option maxRecDepth 16384 in
theorem c_isEven1 (L : Nat) (ys : Nat → Int32) (d : Nat) (s : im_S) (hv : jI s) (l0 : Nat) (Q : Int → im_S → Prop) (hW : C_isEven1 l0 s Q) : pcI L ys 0 d 114 [(2, ((l0 : Nat) : Int))] s (fun z9 s9 => jI s9 ∧ iR z9 ∧ Q z9 s9) := by
  intro res hres
  refine pq_start (M := rm_p_X1_isEven) (Q := (fun r : im_Re => ∃ z, r.1 = some (0, z) ∧ (jI r.2 ∧ iR z ∧ Q z r.2))) om_X1_isEven (fun d N => ?_) res hres
  refine pq_w [(0, (2, ((l0 : Nat) : Int)))] ⟨rfl, trivial⟩ ?_
  unfold C_isEven1 at hW
  refine pq_l (pc' := 1) rfl rfl rfl rfl rfl ?_
  refine pq_gi (pc' := 4) rfl rfl rfl rfl rfl (fun r1 => ?_)
  have J203 : ∀ v202 : Int, iR v202 → ((Q v202 s)) → pq L ys d N rm_p_X1_isEven (23, [], [(0, v202)], s) (fun r : im_Re => ∃ z, r.1 = some (0, z) ∧ (jI r.2 ∧ iR z ∧ Q z r.2)) := by
    intro v202 v202r hW
    exact pq_iret rfl ⟨_, rfl, hv, v202r, hW⟩
  refine pq_z_eq (pt := 18) (pc' := 7) rfl rfl rfl (fun c2 => ?_) (fun c2 => ?_)
  · refine pq_k (pc' := 19) (v := (0, 1)) rfl rfl rfl (fun _ => rfl) ?_
    refine pq_goto (pc' := 23) rfl rfl ?_
    refine pq_w [] trivial ?_
    exact J203 1 (⟨by decide, by decide⟩ : iR 1) (hW _ (by rw [if_pos c2]))
  · refine pq_l (pc' := 8) rfl rfl rfl rfl rfl ?_
    refine pq_gr (pc' := 11) (c := (l0 + 1)) (v := 0) rfl rfl rfl rfl rfl rfl hv ?_
    refine pq_k (pc' := 12) (v := (0, 0)) rfl rfl rfl (fun _ => rfl) ?_
    refine pq_ia (pc' := 13) rfl rfl (fun r3a r3b r3 => ?_)
    refine pq_k (pc' := 14) (v := (0, 1)) rfl rfl rfl (fun _ => rfl) ?_
    refine pq_iand (pc' := 15) rfl rfl ?_
    refine pq_z_ne (pt := 22) (pc' := 18) rfl rfl rfl (fun c4 => ?_) (fun c4 => ?_)
    · refine pq_k (pc' := 23) (v := (0, 0)) rfl rfl rfl (fun _ => rfl) ?_
      refine pq_w [] trivial ?_
      exact J203 0 (⟨by decide, by decide⟩ : iR 0) (hW _ (by rw [if_neg (fun z => c2 z), if_pos c4]))
    · refine pq_k (pc' := 19) (v := (0, 1)) rfl rfl rfl (fun _ => rfl) ?_
      refine pq_goto (pc' := 23) rfl rfl ?_
      refine pq_w [] trivial ?_
      exact J203 1 (⟨by decide, by decide⟩ : iR 1) (hW _ (by rw [if_neg (fun z => c2 z), if_neg (by omega)]))
def C_width1_9 (K9 : Int × Int × Int × im_S → Prop) (l2 : Int) (l4 : Int) (l5 : Int) (s : im_S) (Q : Int → im_S → Prop) : Prop := ((l5 ≤ 0 → (∀ v203 : Int, v203 = (if l2 = 0 then 0 else (w32 (l4 + 1))) → (Q v203 s))) ∧ (¬ (l5 ≤ 0) → (∀ v406 : Int, v406 = (if (ushJ l2 l5) = 0 then l2 else (ushJ l2 l5)) → ∀ v407 : Int, v407 = (if (ushJ l2 l5) = 0 then l4 else (w32 (l4 + l5))) → (K9 (v406, v407, (shrI l5 1), s)))))
def C_width1 (l0 : Int) (s : im_S) (Q : Int → im_S → Prop) : Prop := (ploop (fun (K : Int × Int × Int × im_S → Prop) (a : Int × Int × Int × im_S) => C_width1_9 K a.1 a.2.1 a.2.2.1 a.2.2.2 Q) (l0, 0, 32, s))
set_option maxRecDepth 16384 in
theorem c_width1 (L : Nat) (ys : Nat → Int32) (d : Nat) (s : im_S) (hv : jI s) (l0 : Int) (l0r : lR l0) (Q : Int → im_S → Prop) (hW : C_width1 l0 s Q) : pcI L ys 0 d 122 [(1, l0)] s (fun z9 s9 => jI s9 ∧ iR z9 ∧ Q z9 s9) := by
  intro res hres
  refine pq_start (M := rm_p_X1_width) (Q := (fun r : im_Re => ∃ z, r.1 = some (0, z) ∧ (jI r.2 ∧ iR z ∧ Q z r.2))) om_X1_width (fun d N => ?_) res hres
  refine pq_w [(0, (1, l0))] ⟨rfl, trivial⟩ ?_
  have J9 : ∀ (I9 : Int × Int × Int × im_S → Prop) (hB9 : ∀ a : Int × Int × Int × im_S, I9 a → C_width1_9 I9 a.1 a.2.1 a.2.2.1 a.2.2.2 Q), ∀ N9 : Nat, N9 ≤ N → ∀ (l2 : Int) (l2r : lR l2) (l4 : Int) (l4r : iR l4) (l5 : Int) (l5r : iR l5) (s : im_S) (hv : jI s), I9 (l2, l4, l5, s) → pq L ys d N9 rm_p_X1_width (9, [(2, (1, l2)), (4, (0, l4)), (5, (0, l5))], [], s) (fun r : im_Re => ∃ z, r.1 = some (0, z) ∧ (jI r.2 ∧ iR z ∧ Q z r.2)) := by
    intro I9 hB9 N9
    induction N9 using Nat.strongRecOn with
    | _ N9 ih9 =>
      intro hN9 l2 l2r l4 l4r l5 l5r s hv hI
      have hW : C_width1_9 I9 l2 l4 l5 s Q := hB9 (l2, l4, l5, s) hI
      unfold C_width1_9 at hW
      refine pq_l (pc' := 11) rfl rfl rfl rfl rfl ?_
      refine pq_z_le (pt := 44) (pc' := 14) rfl rfl rfl (fun c1 => ?_) (fun c1 => ?_)
      · have hW := hW.1 c1
        refine pq_l (pc' := 45) rfl rfl rfl rfl rfl ?_
        refine pq_k (pc' := 46) (v := (1, 0)) rfl rfl rfl (fun _ => rfl) ?_
        refine pq_lcmp (pc' := 47) rfl rfl l2r (⟨by decide, by decide⟩ : lR 0) (fun z2 z2c => ?_)
        have J204 : ∀ v203 : Int, iR v203 → ((Q v203 s)) → pq L ys d N9 rm_p_X1_width (58, [], [(0, v203)], s) (fun r : im_Re => ∃ z, r.1 = some (0, z) ∧ (jI r.2 ∧ iR z ∧ Q z r.2)) := by
          intro v203 v203r hW
          exact pq_iret rfl ⟨_, rfl, hv, v203r, hW⟩
        refine pq_z_eq (pt := 57) (pc' := 50) rfl rfl rfl (fun c3 => ?_) (fun c3 => ?_)
        · have c3 : l2 = 0 := by omega
          refine pq_k (pc' := 58) (v := (0, 0)) rfl rfl rfl (fun _ => rfl) ?_
          refine pq_w [] trivial ?_
          exact J204 0 (⟨by decide, by decide⟩ : iR 0) (hW _ (by rw [if_pos c3]))
        · have c3 : ¬ (l2 = 0) := by omega
          refine pq_l (pc' := 52) rfl rfl rfl rfl rfl ?_
          refine pq_k (pc' := 53) (v := (0, 1)) rfl rfl rfl (fun _ => rfl) ?_
          refine pq_add (pc' := 54) rfl rfl ?_
          refine pq_goto (pc' := 58) rfl rfl ?_
          refine pq_w [] trivial ?_
          exact J204 (w32 (l4 + 1)) (w32_r _) (hW _ (by rw [if_neg (fun z => c3 z)]))
      · have hW := hW.2 c1
        refine pq_l (pc' := 15) rfl rfl rfl rfl rfl ?_
        refine pq_l (pc' := 17) rfl rfl rfl rfl rfl ?_
        refine pq_lushr (pc' := 18) rfl rfl ?_
        refine pq_k (pc' := 19) (v := (1, 0)) rfl rfl rfl (fun _ => rfl) ?_
        refine pq_lcmp (pc' := 20) rfl rfl (ushJ_r _ _) (⟨by decide, by decide⟩ : lR 0) (fun z205 z205c => ?_)
        have J408 : ∀ v406 : Int, lR v406 → ∀ v407 : Int, iR v407 → ((I9 (v406, v407, (shrI l5 1), s))) → pq L ys d N9 rm_p_X1_width (35, [(2, (1, v406)), (4, (0, v407)), (5, (0, l5))], [], s) (fun r : im_Re => ∃ z, r.1 = some (0, z) ∧ (jI r.2 ∧ iR z ∧ Q z r.2)) := by
          intro v406 v406r v407 v407r hW
          refine pq_l (pc' := 37) rfl rfl rfl rfl rfl ?_
          refine pq_k (pc' := 38) (v := (0, 1)) rfl rfl rfl (fun _ => rfl) ?_
          refine pq_ishr (pc' := 39) rfl rfl ?_
          refine pq_s (pc' := 41) rfl rfl rfl rfl rfl ?_
          refine pq_gotoT (pc' := 9) rfl rfl (fun m409 m409l => ?_)
          refine pq_w [(2, (1, v406)), (4, (0, v407)), (5, (0, (shrI l5 1)))] ⟨rfl, rfl, rfl, trivial⟩ ?_
          exact ih9 m409 (by omega) (by omega) v406 v406r v407 v407r (shrI l5 1) (shrI_r _ _) s hv hW
        refine pq_z_eq (pt := 35) (pc' := 23) rfl rfl rfl (fun c206 => ?_) (fun c206 => ?_)
        · have c206 : (ushJ l2 l5) = 0 := by omega
          refine pq_w [(2, (1, l2)), (4, (0, l4)), (5, (0, l5))] ⟨rfl, rfl, rfl, trivial⟩ ?_
          exact J408 l2 l2r l4 l4r (hW _ (by rw [if_pos c206]) _ (by rw [if_pos c206]))
        · have c206 : ¬ ((ushJ l2 l5) = 0) := by omega
          refine pq_l (pc' := 24) rfl rfl rfl rfl rfl ?_
          refine pq_l (pc' := 26) rfl rfl rfl rfl rfl ?_
          refine pq_lushr (pc' := 27) rfl rfl ?_
          refine pq_s2 (pc' := 28) rfl rfl rfl rfl rfl ?_
          refine pq_l (pc' := 30) rfl rfl rfl rfl rfl ?_
          refine pq_l (pc' := 32) rfl rfl rfl rfl rfl ?_
          refine pq_add (pc' := 33) rfl rfl ?_
          refine pq_s (pc' := 35) rfl rfl rfl rfl rfl ?_
          refine pq_w [(2, (1, (ushJ l2 l5))), (4, (0, (w32 (l4 + l5)))), (5, (0, l5))] ⟨rfl, rfl, rfl, trivial⟩ ?_
          exact J408 (ushJ l2 l5) (ushJ_r _ _) (w32 (l4 + l5)) (w32_r _) (hW _ (by rw [if_neg (fun z => c206 z)]) _ (by rw [if_neg (fun z => c206 z)]))
  unfold C_width1 at hW
  refine pq_l (pc' := 1) rfl rfl rfl rfl rfl ?_
  refine pq_s2 (pc' := 2) rfl rfl rfl rfl rfl ?_
  refine pq_k (pc' := 3) (v := (0, 0)) rfl rfl rfl (fun _ => rfl) ?_
  refine pq_s (pc' := 5) rfl rfl rfl rfl rfl ?_
  refine pq_k (pc' := 7) (v := (0, 32)) rfl rfl rfl (fun _ => rfl) ?_
  refine pq_s (pc' := 9) rfl rfl rfl rfl rfl ?_
  refine pq_w [(2, (1, l0)), (4, (0, 0)), (5, (0, 32))] ⟨rfl, rfl, rfl, trivial⟩ ?_
  obtain ⟨I9, hI9, hB9⟩ := hW
  exact J9 I9 hB9 N (by omega) l0 l0r 0 (⟨by decide, by decide⟩ : iR 0) 32 (⟨by decide, by decide⟩ : iR 32) s hv hI9
def C_bits1_40 (k0 : Int) (s : im_S) (Q : Int → im_S → Prop) : Prop := (Q k0 s)
def C_bits1 (l0 : Nat) (s : im_S) (Q : Int → im_S → Prop) : Prop := ((¬ ((cgf s l0 1) = 0) → (caI s (l0 + 1) (w32 ((cgf s l0 1) - 1)) → (C_width1 (andJ (cga s (l0 + 1) (w32 ((cgf s l0 1) - 1))) 4294967295) s (fun z7 s6 => (C_bits1_40 (w32 ((w32 (32 * (w32 ((cgf s l0 1) - 1)))) + z7)) s6 Q))))) ∧ ((cgf s l0 1) = 0 → (C_bits1_40 0 s Q)))
set_option maxRecDepth 16384 in
theorem c_bits1 (L : Nat) (ys : Nat → Int32) (d : Nat) (s : im_S) (hv : jI s) (l0 : Nat) (Q : Int → im_S → Prop) (hW : C_bits1 l0 s Q) : pcI L ys 0 d 109 [(2, ((l0 : Nat) : Int))] s (fun z9 s9 => jI s9 ∧ iR z9 ∧ Q z9 s9) := by
  intro res hres
  refine pq_start (M := rm_p_X1_bits) (Q := (fun r : im_Re => ∃ z, r.1 = some (0, z) ∧ (jI r.2 ∧ iR z ∧ Q z r.2))) om_X1_bits (fun d N => ?_) res hres
  refine pq_w [(0, (2, ((l0 : Nat) : Int)))] ⟨rfl, trivial⟩ ?_
  have J40 : ∀ N40 : Nat, N40 ≤ N → ∀ (k0 : Int) (k0r : iR k0) (s : im_S) (hv : jI s), C_bits1_40 k0 s Q → pq L ys d N40 rm_p_X1_bits (40, [], [(0, k0)], s) (fun r : im_Re => ∃ z, r.1 = some (0, z) ∧ (jI r.2 ∧ iR z ∧ Q z r.2)) := by
    intro N40 hN40 k0 k0r s hv hW
    unfold C_bits1_40 at hW
    exact pq_iret rfl ⟨_, rfl, hv, k0r, hW⟩
  unfold C_bits1 at hW
  refine pq_l (pc' := 1) rfl rfl rfl rfl rfl ?_
  refine pq_gi (pc' := 4) rfl rfl rfl rfl rfl (fun r1 => ?_)
  refine pq_z_ne (pt := 11) (pc' := 7) rfl rfl rfl (fun c2 => ?_) (fun c2 => ?_)
  · have hW := hW.1 c2
    refine pq_k (pc' := 13) (v := (0, 32)) rfl rfl rfl (fun _ => rfl) ?_
    refine pq_l (pc' := 14) rfl rfl rfl rfl rfl ?_
    refine pq_gi (pc' := 17) rfl rfl rfl rfl rfl (fun r3 => ?_)
    refine pq_k (pc' := 18) (v := (0, 1)) rfl rfl rfl (fun _ => rfl) ?_
    refine pq_sub (pc' := 19) rfl rfl ?_
    refine pq_mul (pc' := 20) rfl rfl ?_
    refine pq_l (pc' := 21) rfl rfl rfl rfl rfl ?_
    refine pq_gr (pc' := 24) (c := (l0 + 1)) (v := 0) rfl rfl rfl rfl rfl rfl hv ?_
    refine pq_l (pc' := 25) rfl rfl rfl rfl rfl ?_
    refine pq_gi (pc' := 28) rfl rfl rfl rfl rfl (fun r4 => ?_)
    refine pq_k (pc' := 29) (v := (0, 1)) rfl rfl rfl (fun _ => rfl) ?_
    refine pq_sub (pc' := 30) rfl rfl ?_
    refine pq_ia (pc' := 31) rfl rfl (fun r5a r5b r5 => ?_)
    have hW := hW ⟨⟨r5a, r5b⟩, r5⟩
    refine pq_i2l (pc' := 32) rfl rfl r5 ?_
    refine pq_k (pc' := 35) (v := (1, 4294967295)) rfl rfl rfl (fun _ => rfl) ?_
    refine pq_land (pc' := 36) rfl rfl ?_
    refine pq_cSI (pc' := 39) rfl rfl rfl rfl rfl (c_width1 L ys d s hv (andJ (cga s (l0 + 1) (w32 ((cgf s l0 1) - 1))) 4294967295) (andJ_r _ _) _ hW) (fun z7 s6 hr => ?_)
    obtain ⟨s6v, z7r, hW⟩ := hr
    refine pq_add (pc' := 40) rfl rfl ?_
    refine pq_w [] trivial ?_
    exact J40 N (by omega) (w32 ((w32 (32 * (w32 ((cgf s l0 1) - 1)))) + z7)) (w32_r _) s6 s6v hW
  · have hW := hW.2 c2
    refine pq_k (pc' := 8) (v := (0, 0)) rfl rfl rfl (fun _ => rfl) ?_
    refine pq_goto (pc' := 40) rfl rfl ?_
    refine pq_w [] trivial ?_
    exact J40 N (by omega) 0 (⟨by decide, by decide⟩ : iR 0) s hv hW
def C_J9_min_7cf53 (l0 : Int) (l1 : Int) (s : im_S) (Q : Int → im_S → Prop) : Prop := (∀ v201 : Int, v201 = (if l1 < l0 then l1 else l0) → (Q v201 s))
set_option maxRecDepth 16384 in
theorem c_J9_min_7cf53 (L : Nat) (ys : Nat → Int32) (d : Nat) (s : im_S) (hv : jI s) (l0 : Int) (l0r : iR l0) (l1 : Int) (l1r : iR l1) (Q : Int → im_S → Prop) (hW : C_J9_min_7cf53 l0 l1 s Q) : pcI L ys 0 d 244 [(0, l0), (0, l1)] s (fun z9 s9 => jI s9 ∧ iR z9 ∧ Q z9 s9) := by
  intro res hres
  refine pq_start (M := rm_p_J9_min_7cf53) (Q := (fun r : im_Re => ∃ z, r.1 = some (0, z) ∧ (jI r.2 ∧ iR z ∧ Q z r.2))) om_J9_min_7cf53 (fun d N => ?_) res hres
  refine pq_w [(0, (0, l0)), (1, (0, l1))] ⟨rfl, rfl, trivial⟩ ?_
  unfold C_J9_min_7cf53 at hW
  refine pq_l (pc' := 1) rfl rfl rfl rfl rfl ?_
  refine pq_l (pc' := 2) rfl rfl rfl rfl rfl ?_
  have J202 : ∀ v201 : Int, iR v201 → ((Q v201 s)) → pq L ys d N rm_p_J9_min_7cf53 (10, [], [(0, v201)], s) (fun r : im_Re => ∃ z, r.1 = some (0, z) ∧ (jI r.2 ∧ iR z ∧ Q z r.2)) := by
    intro v201 v201r hW
    exact pq_iret rfl ⟨_, rfl, hv, v201r, hW⟩
  refine pq_c_gt (pt := 9) (pc' := 5) rfl rfl rfl (fun c1 => ?_) (fun c1 => ?_)
  · refine pq_l (pc' := 10) rfl rfl rfl rfl rfl ?_
    refine pq_w [] trivial ?_
    exact J202 l1 l1r (hW _ (by rw [if_pos c1]))
  · refine pq_l (pc' := 6) rfl rfl rfl rfl rfl ?_
    refine pq_goto (pc' := 10) rfl rfl ?_
    refine pq_w [] trivial ?_
    exact J202 l0 l0r (hW _ (by rw [if_neg (fun z => c1 z)]))
def C_toLong1_13 (K13 : Int × Int × im_S → Prop) (l0 : Nat) (l1 : Int) (l3 : Int) (s : im_S) (Q : Int → im_S → Prop) : Prop := ((l3 < 0 → (∀ v203 : Int, v203 = (if 0 ≤ (cgf s l0 2) then l1 else (w64 (-l1))) → (Q v203 s))) ∧ (¬ (l3 < 0) → (caI s (l0 + 1) l3 → (K13 ((orJ (shlJ l1 32) (andJ (cga s (l0 + 1) l3) 4294967295)), (w32 (l3 + (-1))), s)))))
def C_toLong1 (l0 : Nat) (s : im_S) (Q : Int → im_S → Prop) : Prop := (C_J9_min_7cf53 (cgf s l0 1) 2 s (fun z209 s208 => (ploop (fun (K : Int × Int × im_S → Prop) (a : Int × Int × im_S) => C_toLong1_13 K l0 a.1 a.2.1 a.2.2 Q) (0, (w32 (z209 - 1)), s208))))
set_option maxRecDepth 16384 in
theorem c_toLong1 (L : Nat) (ys : Nat → Int32) (d : Nat) (s : im_S) (hv : jI s) (l0 : Nat) (Q : Int → im_S → Prop) (hW : C_toLong1 l0 s Q) : pcI L ys 1 d 120 [(2, ((l0 : Nat) : Int))] s (fun z9 s9 => jI s9 ∧ lR z9 ∧ Q z9 s9) := by
  intro res hres
  refine pq_start (M := rm_p_X1_toLong) (Q := (fun r : im_Re => ∃ z, r.1 = some (1, z) ∧ (jI r.2 ∧ lR z ∧ Q z r.2))) om_X1_toLong (fun d N => ?_) res hres
  refine pq_w [(0, (2, ((l0 : Nat) : Int)))] ⟨rfl, trivial⟩ ?_
  have J13 : ∀ (l0 : Nat) (I13 : Int × Int × im_S → Prop) (hB13 : ∀ a : Int × Int × im_S, I13 a → C_toLong1_13 I13 l0 a.1 a.2.1 a.2.2 Q), ∀ N13 : Nat, N13 ≤ N → ∀ (l1 : Int) (l1r : lR l1) (l3 : Int) (l3r : iR l3) (s : im_S) (hv : jI s), I13 (l1, l3, s) → pq L ys d N13 rm_p_X1_toLong (13, [(0, (2, ((l0 : Nat) : Int))), (1, (1, l1)), (3, (0, l3))], [], s) (fun r : im_Re => ∃ z, r.1 = some (1, z) ∧ (jI r.2 ∧ lR z ∧ Q z r.2)) := by
    intro l0 I13 hB13 N13
    induction N13 using Nat.strongRecOn with
    | _ N13 ih13 =>
      intro hN13 l1 l1r l3 l3r s hv hI
      have hW : C_toLong1_13 I13 l0 l1 l3 s Q := hB13 (l1, l3, s) hI
      unfold C_toLong1_13 at hW
      refine pq_l (pc' := 14) rfl rfl rfl rfl rfl ?_
      refine pq_z_lt (pt := 40) (pc' := 17) rfl rfl rfl (fun c1 => ?_) (fun c1 => ?_)
      · have hW := hW.1 c1
        refine pq_l (pc' := 41) rfl rfl rfl rfl rfl ?_
        refine pq_gi (pc' := 44) rfl rfl rfl rfl rfl (fun r2 => ?_)
        have J204 : ∀ v203 : Int, lR v203 → ((Q v203 s)) → pq L ys d N13 rm_p_X1_toLong (53, [], [(1, v203)], s) (fun r : im_Re => ∃ z, r.1 = some (1, z) ∧ (jI r.2 ∧ lR z ∧ Q z r.2)) := by
          intro v203 v203r hW
          exact pq_lret rfl ⟨_, rfl, hv, v203r, hW⟩
        refine pq_z_ge (pt := 52) (pc' := 47) rfl rfl rfl (fun c3 => ?_) (fun c3 => ?_)
        · refine pq_l (pc' := 53) rfl rfl rfl rfl rfl ?_
          refine pq_w [] trivial ?_
          exact J204 l1 l1r (hW _ (by rw [if_pos c3]))
        · refine pq_l (pc' := 48) rfl rfl rfl rfl rfl ?_
          refine pq_lneg (pc' := 49) rfl rfl ?_
          refine pq_goto (pc' := 53) rfl rfl ?_
          refine pq_w [] trivial ?_
          exact J204 (w64 (-l1)) (w64_r _) (hW _ (by rw [if_neg (fun z => c3 z)]))
      · have hW := hW.2 c1
        refine pq_l (pc' := 18) rfl rfl rfl rfl rfl ?_
        refine pq_k (pc' := 20) (v := (0, 32)) rfl rfl rfl (fun _ => rfl) ?_
        refine pq_lshl (pc' := 21) rfl rfl ?_
        refine pq_l (pc' := 22) rfl rfl rfl rfl rfl ?_
        refine pq_gr (pc' := 25) (c := (l0 + 1)) (v := 0) rfl rfl rfl rfl rfl rfl hv ?_
        refine pq_l (pc' := 26) rfl rfl rfl rfl rfl ?_
        refine pq_ia (pc' := 27) rfl rfl (fun r205a r205b r205 => ?_)
        have hW := hW ⟨⟨r205a, r205b⟩, r205⟩
        refine pq_i2l (pc' := 28) rfl rfl r205 ?_
        refine pq_k (pc' := 31) (v := (1, 4294967295)) rfl rfl rfl (fun _ => rfl) ?_
        refine pq_land (pc' := 32) rfl rfl ?_
        refine pq_lor (pc' := 33) rfl rfl ?_
        refine pq_s2 (pc' := 34) rfl rfl rfl rfl rfl ?_
        refine pq_inc (pc' := 37) rfl rfl rfl rfl ?_
        refine pq_gotoT (pc' := 13) rfl rfl (fun m206 m206l => ?_)
        refine pq_w [(0, (2, ((l0 : Nat) : Int))), (1, (1, (orJ (shlJ l1 32) (andJ (cga s (l0 + 1) l3) 4294967295)))), (3, (0, (w32 (l3 + (-1)))))] ⟨rfl, rfl, rfl, trivial⟩ ?_
        exact ih13 m206 (by omega) (by omega) (orJ (shlJ l1 32) (andJ (cga s (l0 + 1) l3) 4294967295)) (orJ_r _ _) (w32 (l3 + (-1))) (w32_r _) s hv hW
  unfold C_toLong1 at hW
  refine pq_k (pc' := 1) (v := (1, 0)) rfl rfl rfl (fun _ => rfl) ?_
  refine pq_s2 (pc' := 2) rfl rfl rfl rfl rfl ?_
  refine pq_l (pc' := 3) rfl rfl rfl rfl rfl ?_
  refine pq_gi (pc' := 6) rfl rfl rfl rfl rfl (fun r207 => ?_)
  refine pq_k (pc' := 7) (v := (0, 2)) rfl rfl rfl (fun _ => rfl) ?_
  refine pq_cSI (pc' := 10) rfl rfl rfl rfl rfl (c_J9_min_7cf53 L ys d s hv (cgf s l0 1) r207 2 (⟨by decide, by decide⟩ : iR 2) _ hW) (fun z209 s208 hr => ?_)
  obtain ⟨s208v, z209r, hW⟩ := hr
  refine pq_k (pc' := 11) (v := (0, 1)) rfl rfl rfl (fun _ => rfl) ?_
  refine pq_sub (pc' := 12) rfl rfl ?_
  refine pq_s (pc' := 13) rfl rfl rfl rfl rfl ?_
  refine pq_w [(0, (2, ((l0 : Nat) : Int))), (1, (1, 0)), (3, (0, (w32 (z209 - 1))))] ⟨rfl, rfl, rfl, trivial⟩ ?_
  obtain ⟨I9, hI9, hB9⟩ := hW
  exact J13 l0 I9 hB9 N (by omega) 0 (⟨by decide, by decide⟩ : lR 0) (w32 (z209 - 1)) (w32_r _) s208 s208v hI9
def C_J13_compare_74951 (l0 : Int) (l2 : Int) (s : im_S) (Q : Int → im_S → Prop) : Prop := (∀ v202 : Int, v202 = (if l2 ≤ l0 then (if ¬ (l0 = l2) then 1 else 0) else (-1)) → (Q v202 s))
set_option maxRecDepth 16384 in
theorem c_J13_compare_74951 (L : Nat) (ys : Nat → Int32) (d : Nat) (s : im_S) (hv : jI s) (l0 : Int) (l0r : lR l0) (l2 : Int) (l2r : lR l2) (Q : Int → im_S → Prop) (hW : C_J13_compare_74951 l0 l2 s Q) : pcI L ys 0 d 232 [(1, l0), (1, l2)] s (fun z9 s9 => jI s9 ∧ iR z9 ∧ Q z9 s9) := by
  intro res hres
  refine pq_start (M := rm_p_J13_compare_74951) (Q := (fun r : im_Re => ∃ z, r.1 = some (0, z) ∧ (jI r.2 ∧ iR z ∧ Q z r.2))) om_J13_compare_74951 (fun d N => ?_) res hres
  refine pq_w [(0, (1, l0)), (2, (1, l2))] ⟨rfl, rfl, trivial⟩ ?_
  unfold C_J13_compare_74951 at hW
  refine pq_l (pc' := 1) rfl rfl rfl rfl rfl ?_
  refine pq_l (pc' := 2) rfl rfl rfl rfl rfl ?_
  refine pq_lcmp (pc' := 3) rfl rfl l0r l2r (fun z1 z1c => ?_)
  have J203 : ∀ v202 : Int, iR v202 → ((Q v202 s)) → pq L ys d N rm_p_J13_compare_74951 (21, [], [(0, v202)], s) (fun r : im_Re => ∃ z, r.1 = some (0, z) ∧ (jI r.2 ∧ iR z ∧ Q z r.2)) := by
    intro v202 v202r hW
    exact pq_iret rfl ⟨_, rfl, hv, v202r, hW⟩
  refine pq_z_ge (pt := 10) (pc' := 6) rfl rfl rfl (fun c2 => ?_) (fun c2 => ?_)
  · have c2 : l2 ≤ l0 := by omega
    refine pq_l (pc' := 11) rfl rfl rfl rfl rfl ?_
    refine pq_l (pc' := 12) rfl rfl rfl rfl rfl ?_
    refine pq_lcmp (pc' := 13) rfl rfl l0r l2r (fun z3 z3c => ?_)
    refine pq_z_ne (pt := 20) (pc' := 16) rfl rfl rfl (fun c4 => ?_) (fun c4 => ?_)
    · have c4 : ¬ (l0 = l2) := by omega
      refine pq_k (pc' := 21) (v := (0, 1)) rfl rfl rfl (fun _ => rfl) ?_
      refine pq_w [] trivial ?_
      exact J203 1 (⟨by decide, by decide⟩ : iR 1) (hW _ (by rw [if_pos c2, if_pos c4]))
    · have c4 : l0 = l2 := by omega
      refine pq_k (pc' := 17) (v := (0, 0)) rfl rfl rfl (fun _ => rfl) ?_
      refine pq_goto (pc' := 21) rfl rfl ?_
      refine pq_w [] trivial ?_
      exact J203 0 (⟨by decide, by decide⟩ : iR 0) (hW _ (by rw [if_pos c2, if_neg (by omega)]))
  · have c2 : ¬ (l2 ≤ l0) := by omega
    refine pq_k (pc' := 7) (v := (0, (-1))) rfl rfl rfl (fun _ => rfl) ?_
    refine pq_goto (pc' := 21) rfl rfl ?_
    refine pq_w [] trivial ?_
    exact J203 (-1) (⟨by decide, by decide⟩ : iR (-1)) (hW _ (by rw [if_neg (fun z => c2 z)]))
def C_J9_abs_067f4 (l0 : Int) (s : im_S) (Q : Int → im_S → Prop) : Prop := (∀ v202 : Int, v202 = (if 0 ≤ l0 then l0 else (w64 (-l0))) → (Q v202 s))
set_option maxRecDepth 16384 in
theorem c_J9_abs_067f4 (L : Nat) (ys : Nat → Int32) (d : Nat) (s : im_S) (hv : jI s) (l0 : Int) (l0r : lR l0) (Q : Int → im_S → Prop) (hW : C_J9_abs_067f4 l0 s Q) : pcI L ys 1 d 236 [(1, l0)] s (fun z9 s9 => jI s9 ∧ lR z9 ∧ Q z9 s9) := by
  intro res hres
  refine pq_start (M := rm_p_J9_abs_067f4) (Q := (fun r : im_Re => ∃ z, r.1 = some (1, z) ∧ (jI r.2 ∧ lR z ∧ Q z r.2))) om_J9_abs_067f4 (fun d N => ?_) res hres
  refine pq_w [(0, (1, l0))] ⟨rfl, trivial⟩ ?_
  unfold C_J9_abs_067f4 at hW
  refine pq_l (pc' := 1) rfl rfl rfl rfl rfl ?_
  refine pq_k (pc' := 2) (v := (1, 0)) rfl rfl rfl (fun _ => rfl) ?_
  refine pq_lcmp (pc' := 3) rfl rfl l0r (⟨by decide, by decide⟩ : lR 0) (fun z1 z1c => ?_)
  have J203 : ∀ v202 : Int, lR v202 → ((Q v202 s)) → pq L ys d N rm_p_J9_abs_067f4 (12, [], [(1, v202)], s) (fun r : im_Re => ∃ z, r.1 = some (1, z) ∧ (jI r.2 ∧ lR z ∧ Q z r.2)) := by
    intro v202 v202r hW
    exact pq_lret rfl ⟨_, rfl, hv, v202r, hW⟩
  refine pq_z_ge (pt := 11) (pc' := 6) rfl rfl rfl (fun c2 => ?_) (fun c2 => ?_)
  · have c2 : 0 ≤ l0 := by omega
    refine pq_l (pc' := 12) rfl rfl rfl rfl rfl ?_
    refine pq_w [] trivial ?_
    exact J203 l0 l0r (hW _ (by rw [if_pos c2]))
  · have c2 : ¬ (0 ≤ l0) := by omega
    refine pq_l (pc' := 7) rfl rfl rfl rfl rfl ?_
    refine pq_lneg (pc' := 8) rfl rfl ?_
    refine pq_goto (pc' := 12) rfl rfl ?_
    refine pq_w [] trivial ?_
    exact J203 (w64 (-l0)) (w64_r _) (hW _ (by rw [if_neg (fun z => c2 z)]))
def C_set1_62 (s : im_S) (Q : im_S → Prop) : Prop := (Q s)
def C_set1_19 (K19 : Int × im_S → Prop) (l0 : Nat) (l3 : Int) (s : im_S) (Q : im_S → Prop) : Prop := ((l3 = 0 → (C_set1_62 s Q)) ∧ (¬ (l3 = 0) → ((2 ≤ (cgf s l0 1) → (C_set1_62 s Q)) ∧ (¬ (2 ≤ (cgf s l0 1)) → ((0 ≤ (cgf s l0 1) ∧ (cgf s l0 1) < gln (l0 + 1)) → ∀ s6, s6 = cpa s (l0 + 1) (cgf s l0 1) (w32 l3) → (∀ s8, s8 = cpf s6 l0 1 (w32 ((cgf s6 l0 1) + 1)) → (K19 ((ushJ l3 32), s8))))))))
def C_set1 (l0 : Nat) (l1 : Int) (s : im_S) (Q : im_S → Prop) : Prop := (C_J13_compare_74951 l1 0 s (fun z11 s10 => (∀ s12, s12 = cpf s10 l0 2 z11 → (∀ s13, s13 = cpf s12 l0 1 0 → (C_J9_abs_067f4 l1 s13 (fun z15 s14 => (ploop (fun (K : Int × im_S → Prop) (a : Int × im_S) => C_set1_19 K l0 a.1 a.2 Q) (z15, s14))))))))
set_option maxRecDepth 16384 in
theorem c_set1 (L : Nat) (ys : Nat → Int32) (d : Nat) (s : im_S) (hv : jI s) (l0 : Nat) (l0n : nb l0) (l1 : Int) (l1r : lR l1) (Q : im_S → Prop) (hW : C_set1 l0 l1 s Q) : pcV L ys d 115 [(2, ((l0 : Nat) : Int)), (1, l1)] s (fun s9 => jI s9 ∧ Q s9) := by
  intro res hres
  refine pq_start (M := rm_p_X1_set) (Q := (fun r : im_Re => r.1 = none ∧ (jI r.2 ∧ Q r.2))) om_X1_set (fun d N => ?_) res hres
  refine pq_w [(0, (2, ((l0 : Nat) : Int))), (1, (1, l1))] ⟨rfl, rfl, trivial⟩ ?_
  have J62 : ∀ N62 : Nat, N62 ≤ N → ∀ (s : im_S) (hv : jI s), C_set1_62 s Q → pq L ys d N62 rm_p_X1_set (62, [], [], s) (fun r : im_Re => r.1 = none ∧ (jI r.2 ∧ Q r.2)) := by
    intro N62 hN62 s hv hW
    unfold C_set1_62 at hW
    exact pq_vret rfl ⟨rfl, hv, hW⟩
  have J19 : ∀ (l0 : Nat) (l0n : nb l0) (I19 : Int × im_S → Prop) (hB19 : ∀ a : Int × im_S, I19 a → C_set1_19 I19 l0 a.1 a.2 Q), ∀ N19 : Nat, N19 ≤ N → ∀ (l3 : Int) (l3r : lR l3) (s : im_S) (hv : jI s), I19 (l3, s) → pq L ys d N19 rm_p_X1_set (19, [(0, (2, ((l0 : Nat) : Int))), (3, (1, l3))], [], s) (fun r : im_Re => r.1 = none ∧ (jI r.2 ∧ Q r.2)) := by
    intro l0 l0n I19 hB19 N19
    induction N19 using Nat.strongRecOn with
    | _ N19 ih19 =>
      intro hN19 l3 l3r s hv hI
      have hW : C_set1_19 I19 l0 l3 s Q := hB19 (l3, s) hI
      unfold C_set1_19 at hW
      refine pq_l (pc' := 20) rfl rfl rfl rfl rfl ?_
      refine pq_k (pc' := 21) (v := (1, 0)) rfl rfl rfl (fun _ => rfl) ?_
      refine pq_lcmp (pc' := 22) rfl rfl l3r (⟨by decide, by decide⟩ : lR 0) (fun z1 z1c => ?_)
      refine pq_z_eq (pt := 62) (pc' := 25) rfl rfl rfl (fun c2 => ?_) (fun c2 => ?_)
      · have c2 : l3 = 0 := by omega
        have hW := hW.1 c2
        refine pq_w [] trivial ?_
        exact J62 N19 (by omega) s hv hW
      · have c2 : ¬ (l3 = 0) := by omega
        have hW := hW.2 c2
        refine pq_l (pc' := 26) rfl rfl rfl rfl rfl ?_
        refine pq_gi (pc' := 29) rfl rfl rfl rfl rfl (fun r3 => ?_)
        refine pq_k (pc' := 30) (v := (0, 2)) rfl rfl rfl (fun _ => rfl) ?_
        refine pq_c_ge (pt := 62) (pc' := 33) rfl rfl rfl (fun c4 => ?_) (fun c4 => ?_)
        · have hW := hW.1 c4
          refine pq_w [] trivial ?_
          exact J62 N19 (by omega) s hv hW
        · have hW := hW.2 c4
          refine pq_l (pc' := 34) rfl rfl rfl rfl rfl ?_
          refine pq_gr (pc' := 37) (c := (l0 + 1)) (v := 0) rfl rfl rfl rfl rfl rfl hv ?_
          refine pq_l (pc' := 38) rfl rfl rfl rfl rfl ?_
          refine pq_gi (pc' := 41) rfl rfl rfl rfl rfl (fun r5 => ?_)
          refine pq_l (pc' := 42) rfl rfl rfl rfl rfl ?_
          refine pq_l2i (pc' := 43) rfl rfl ?_
          refine pq_is (pc' := 44) rfl rfl (fun e => l0n.1 (Nat.succ.inj e)) (fun e => l0n.2 (Nat.succ.inj e)) hv (fun s6a s6b s6 s6e s6v => ?_)
          have hW := hW ⟨s6a, s6b⟩ s6 s6e
          refine pq_l (pc' := 45) rfl rfl rfl rfl rfl ?_
          refine pq_x (pc' := 46) rfl rfl rfl (fun _ => rfl) ?_
          refine pq_gi (pc' := 49) rfl rfl rfl rfl rfl (fun r7 => ?_)
          refine pq_k (pc' := 50) (v := (0, 1)) rfl rfl rfl (fun _ => rfl) ?_
          refine pq_add (pc' := 51) rfl rfl ?_
          refine pq_pB (pc' := 54) rfl rfl rfl l0n s6v (fun s8 s8e s8v => ?_)
          have hW := hW s8 s8e
          refine pq_l (pc' := 55) rfl rfl rfl rfl rfl ?_
          refine pq_k (pc' := 57) (v := (0, 32)) rfl rfl rfl (fun _ => rfl) ?_
          refine pq_lushr (pc' := 58) rfl rfl ?_
          refine pq_s2 (pc' := 59) rfl rfl rfl rfl rfl ?_
          refine pq_gotoT (pc' := 19) rfl rfl (fun m9 m9l => ?_)
          refine pq_w [(0, (2, ((l0 : Nat) : Int))), (3, (1, (ushJ l3 32)))] ⟨rfl, rfl, trivial⟩ ?_
          exact ih19 m9 (by omega) (by omega) (ushJ l3 32) (ushJ_r _ _) s8 s8v hW
  unfold C_set1 at hW
  refine pq_l (pc' := 1) rfl rfl rfl rfl rfl ?_
  refine pq_l (pc' := 2) rfl rfl rfl rfl rfl ?_
  refine pq_k (pc' := 3) (v := (1, 0)) rfl rfl rfl (fun _ => rfl) ?_
  refine pq_cSI (pc' := 6) rfl rfl rfl rfl rfl (c_J13_compare_74951 L ys d s hv l1 l1r 0 (⟨by decide, by decide⟩ : lR 0) _ hW) (fun z11 s10 hr => ?_)
  obtain ⟨s10v, z11r, hW⟩ := hr
  refine pq_pB (pc' := 9) rfl rfl rfl l0n s10v (fun s12 s12e s12v => ?_)
  have hW := hW s12 s12e
  refine pq_l (pc' := 10) rfl rfl rfl rfl rfl ?_
  refine pq_k (pc' := 11) (v := (0, 0)) rfl rfl rfl (fun _ => rfl) ?_
  refine pq_pB (pc' := 14) rfl rfl rfl l0n s12v (fun s13 s13e s13v => ?_)
  have hW := hW s13 s13e
  refine pq_l (pc' := 15) rfl rfl rfl rfl rfl ?_
  refine pq_cSI (pc' := 18) rfl rfl rfl rfl rfl (c_J9_abs_067f4 L ys d s13 s13v l1 l1r _ hW) (fun z15 s14 hr => ?_)
  obtain ⟨s14v, z15r, hW⟩ := hr
  refine pq_s2 (pc' := 19) rfl rfl rfl rfl rfl ?_
  refine pq_w [(0, (2, ((l0 : Nat) : Int))), (3, (1, z15))] ⟨rfl, rfl, trivial⟩ ?_
  obtain ⟨I9, hI9, hB9⟩ := hW
  exact J19 l0 l0n I9 hB9 N (by omega) z15 z15r s14 s14v hI9
def C_copy1 (l0 : Nat) (l1 : Nat) (s : im_S) (Q : im_S → Prop) : Prop := (C_J9_min_7cf53 (cgf s l1 1) (gln (l0 + 1)) s (fun z3 s2 => (∀ s4, s4 = cpf s2 l0 1 z3 → (0 ≤ (cgf s4 l0 1) → ∀ s6, s6 = ccp s4 (l1 + 1) (l0 + 1) 0 0 (cgf s4 l0 1) → (∀ s8, s8 = cpf s6 l0 2 (cgf s6 l1 2) → (Q s8))))))
set_option maxRecDepth 16384 in
theorem c_copy1 (L : Nat) (ys : Nat → Int32) (d : Nat) (s : im_S) (hv : jI s) (l0 : Nat) (l0n : nb l0) (l1 : Nat) (Q : im_S → Prop) (hW : C_copy1 l0 l1 s Q) : pcV L ys d 111 [(2, ((l0 : Nat) : Int)), (2, ((l1 : Nat) : Int))] s (fun s9 => jI s9 ∧ Q s9) := by
  intro res hres
  refine pq_start (M := rm_p_X1_copy) (Q := (fun r : im_Re => r.1 = none ∧ (jI r.2 ∧ Q r.2))) om_X1_copy (fun d N => ?_) res hres
  refine pq_w [(0, (2, ((l0 : Nat) : Int))), (1, (2, ((l1 : Nat) : Int)))] ⟨rfl, rfl, trivial⟩ ?_
  unfold C_copy1 at hW
  refine pq_l (pc' := 1) rfl rfl rfl rfl rfl ?_
  refine pq_l (pc' := 2) rfl rfl rfl rfl rfl ?_
  refine pq_gi (pc' := 5) rfl rfl rfl rfl rfl (fun r1 => ?_)
  refine pq_l (pc' := 6) rfl rfl rfl rfl rfl ?_
  refine pq_gr (pc' := 9) (c := (l0 + 1)) (v := 0) rfl rfl rfl rfl rfl rfl hv ?_
  refine pq_alen (pc' := 10) rfl rfl ?_
  refine pq_cSI (pc' := 13) rfl rfl rfl rfl rfl (c_J9_min_7cf53 L ys d s hv (cgf s l1 1) r1 (gln (l0 + 1)) (gln_r _) _ hW) (fun z3 s2 hr => ?_)
  obtain ⟨s2v, z3r, hW⟩ := hr
  refine pq_pB (pc' := 16) rfl rfl rfl l0n s2v (fun s4 s4e s4v => ?_)
  have hW := hW s4 s4e
  refine pq_l (pc' := 17) rfl rfl rfl rfl rfl ?_
  refine pq_gr (pc' := 20) (c := (l1 + 1)) (v := 0) rfl rfl rfl rfl rfl rfl s4v ?_
  refine pq_k (pc' := 21) (v := (0, 0)) rfl rfl rfl (fun _ => rfl) ?_
  refine pq_l (pc' := 22) rfl rfl rfl rfl rfl ?_
  refine pq_gr (pc' := 25) (c := (l0 + 1)) (v := 0) rfl rfl rfl rfl rfl rfl s4v ?_
  refine pq_k (pc' := 26) (v := (0, 0)) rfl rfl rfl (fun _ => rfl) ?_
  refine pq_l (pc' := 27) rfl rfl rfl rfl rfl ?_
  refine pq_gi (pc' := 30) rfl rfl rfl rfl rfl (fun r5 => ?_)
  refine pq_cp (pc' := 33) rfl rfl rfl (fun e => l0n.1 (Nat.succ.inj e)) (fun e => l0n.2 (Nat.succ.inj e)) s4v (fun s6a s6 s6e s6v => ?_)
  have hW := hW s6a s6 s6e
  refine pq_l (pc' := 34) rfl rfl rfl rfl rfl ?_
  refine pq_l (pc' := 35) rfl rfl rfl rfl rfl ?_
  refine pq_gi (pc' := 38) rfl rfl rfl rfl rfl (fun r7 => ?_)
  refine pq_pB (pc' := 41) rfl rfl rfl l0n s6v (fun s8 s8e s8v => ?_)
  have hW := hW s8 s8e
  exact pq_vret rfl ⟨rfl, s8v, hW⟩
def C_compareSize1_35 (K35 : Int × im_S → Prop) (l0 : Nat) (l1 : Nat) (l2 : Int) (s : im_S) (Q : Int → im_S → Prop) : Prop := ((l2 < 0 → (Q 0 s)) ∧ (¬ (l2 < 0) → (caI s (l0 + 1) l2 → (caI s (l1 + 1) l2 → (((cga s (l0 + 1) l2) = (cga s (l1 + 1) l2) → (K35 ((w32 (l2 + (-1))), s))) ∧ (¬ ((cga s (l0 + 1) l2) = (cga s (l1 + 1) l2)) → (caI s (l0 + 1) l2 → (caI s (l1 + 1) l2 → (∀ v209 : Int, v209 = (if (andJ (cga s (l1 + 1) l2) 4294967295) ≤ (andJ (cga s (l0 + 1) l2) 4294967295) then 1 else (-1)) → (Q v209 s))))))))))
def C_compareSize1 (l0 : Nat) (l1 : Nat) (s : im_S) (Q : Int → im_S → Prop) : Prop := (((cgf s l0 1) = (cgf s l1 1) → (ploop (fun (K : Int × im_S → Prop) (a : Int × im_S) => C_compareSize1_35 K l0 l1 a.1 a.2 Q) ((w32 ((cgf s l0 1) - 1)), s))) ∧ (¬ ((cgf s l0 1) = (cgf s l1 1)) → (∀ v417 : Int, v417 = (if (cgf s l1 1) ≤ (cgf s l0 1) then 1 else (-1)) → (Q v417 s))))
set_option maxRecDepth 16384 in
theorem c_compareSize1 (L : Nat) (ys : Nat → Int32) (d : Nat) (s : im_S) (hv : jI s) (l0 : Nat) (l1 : Nat) (Q : Int → im_S → Prop) (hW : C_compareSize1 l0 l1 s Q) : pcI L ys 0 d 110 [(2, ((l0 : Nat) : Int)), (2, ((l1 : Nat) : Int))] s (fun z9 s9 => jI s9 ∧ iR z9 ∧ Q z9 s9) := by
  intro res hres
  refine pq_start (M := rm_p_X1_compareSize) (Q := (fun r : im_Re => ∃ z, r.1 = some (0, z) ∧ (jI r.2 ∧ iR z ∧ Q z r.2))) om_X1_compareSize (fun d N => ?_) res hres
  refine pq_w [(0, (2, ((l0 : Nat) : Int))), (1, (2, ((l1 : Nat) : Int)))] ⟨rfl, rfl, trivial⟩ ?_
  have J35 : ∀ (l0 : Nat) (l1 : Nat) (I35 : Int × im_S → Prop) (hB35 : ∀ a : Int × im_S, I35 a → C_compareSize1_35 I35 l0 l1 a.1 a.2 Q), ∀ N35 : Nat, N35 ≤ N → ∀ (l2 : Int) (l2r : iR l2) (s : im_S) (hv : jI s), I35 (l2, s) → pq L ys d N35 rm_p_X1_compareSize (35, [(0, (2, ((l0 : Nat) : Int))), (1, (2, ((l1 : Nat) : Int))), (2, (0, l2))], [], s) (fun r : im_Re => ∃ z, r.1 = some (0, z) ∧ (jI r.2 ∧ iR z ∧ Q z r.2)) := by
    intro l0 l1 I35 hB35 N35
    induction N35 using Nat.strongRecOn with
    | _ N35 ih35 =>
      intro hN35 l2 l2r s hv hI
      have hW : C_compareSize1_35 I35 l0 l1 l2 s Q := hB35 (l2, s) hI
      unfold C_compareSize1_35 at hW
      refine pq_l (pc' := 36) rfl rfl rfl rfl rfl ?_
      refine pq_z_lt (pt := 92) (pc' := 39) rfl rfl rfl (fun c1 => ?_) (fun c1 => ?_)
      · have hW := hW.1 c1
        refine pq_k (pc' := 93) (v := (0, 0)) rfl rfl rfl (fun _ => rfl) ?_
        exact pq_iret rfl ⟨_, rfl, hv, (⟨by decide, by decide⟩ : iR 0), hW⟩
      · have hW := hW.2 c1
        refine pq_l (pc' := 40) rfl rfl rfl rfl rfl ?_
        refine pq_gr (pc' := 43) (c := (l0 + 1)) (v := 0) rfl rfl rfl rfl rfl rfl hv ?_
        refine pq_l (pc' := 44) rfl rfl rfl rfl rfl ?_
        refine pq_ia (pc' := 45) rfl rfl (fun r2a r2b r2 => ?_)
        have hW := hW ⟨⟨r2a, r2b⟩, r2⟩
        refine pq_l (pc' := 46) rfl rfl rfl rfl rfl ?_
        refine pq_gr (pc' := 49) (c := (l1 + 1)) (v := 0) rfl rfl rfl rfl rfl rfl hv ?_
        refine pq_l (pc' := 50) rfl rfl rfl rfl rfl ?_
        refine pq_ia (pc' := 51) rfl rfl (fun r3a r3b r3 => ?_)
        have hW := hW ⟨⟨r3a, r3b⟩, r3⟩
        refine pq_c_eq (pt := 86) (pc' := 54) rfl rfl rfl (fun c4 => ?_) (fun c4 => ?_)
        · have hW := hW.1 c4
          refine pq_inc (pc' := 89) rfl rfl rfl rfl ?_
          refine pq_gotoT (pc' := 35) rfl rfl (fun m5 m5l => ?_)
          refine pq_w [(0, (2, ((l0 : Nat) : Int))), (1, (2, ((l1 : Nat) : Int))), (2, (0, (w32 (l2 + (-1)))))] ⟨rfl, rfl, rfl, trivial⟩ ?_
          exact ih35 m5 (by omega) (by omega) (w32 (l2 + (-1))) (w32_r _) s hv hW
        · have hW := hW.2 c4
          refine pq_l (pc' := 55) rfl rfl rfl rfl rfl ?_
          refine pq_gr (pc' := 58) (c := (l0 + 1)) (v := 0) rfl rfl rfl rfl rfl rfl hv ?_
          refine pq_l (pc' := 59) rfl rfl rfl rfl rfl ?_
          refine pq_ia (pc' := 60) rfl rfl (fun r6a r6b r6 => ?_)
          have hW := hW ⟨⟨r6a, r6b⟩, r6⟩
          refine pq_i2l (pc' := 61) rfl rfl r6 ?_
          refine pq_k (pc' := 64) (v := (1, 4294967295)) rfl rfl rfl (fun _ => rfl) ?_
          refine pq_land (pc' := 65) rfl rfl ?_
          refine pq_l (pc' := 66) rfl rfl rfl rfl rfl ?_
          refine pq_gr (pc' := 69) (c := (l1 + 1)) (v := 0) rfl rfl rfl rfl rfl rfl hv ?_
          refine pq_l (pc' := 70) rfl rfl rfl rfl rfl ?_
          refine pq_ia (pc' := 71) rfl rfl (fun r7a r7b r7 => ?_)
          have hW := hW ⟨⟨r7a, r7b⟩, r7⟩
          refine pq_i2l (pc' := 72) rfl rfl r7 ?_
          refine pq_k (pc' := 75) (v := (1, 4294967295)) rfl rfl rfl (fun _ => rfl) ?_
          refine pq_land (pc' := 76) rfl rfl ?_
          refine pq_lcmp (pc' := 77) rfl rfl (andJ_r _ _) (andJ_r _ _) (fun z8 z8c => ?_)
          have J210 : ∀ v209 : Int, iR v209 → ((Q v209 s)) → pq L ys d N35 rm_p_X1_compareSize (85, [], [(0, v209)], s) (fun r : im_Re => ∃ z, r.1 = some (0, z) ∧ (jI r.2 ∧ iR z ∧ Q z r.2)) := by
            intro v209 v209r hW
            exact pq_iret rfl ⟨_, rfl, hv, v209r, hW⟩
          refine pq_z_ge (pt := 84) (pc' := 80) rfl rfl rfl (fun c9 => ?_) (fun c9 => ?_)
          · have c9 : (andJ (cga s (l1 + 1) l2) 4294967295) ≤ (andJ (cga s (l0 + 1) l2) 4294967295) := by omega
            refine pq_k (pc' := 85) (v := (0, 1)) rfl rfl rfl (fun _ => rfl) ?_
            refine pq_w [] trivial ?_
            exact J210 1 (⟨by decide, by decide⟩ : iR 1) (hW _ (by rw [if_pos c9]))
          · have c9 : ¬ ((andJ (cga s (l1 + 1) l2) 4294967295) ≤ (andJ (cga s (l0 + 1) l2) 4294967295)) := by omega
            refine pq_k (pc' := 81) (v := (0, (-1))) rfl rfl rfl (fun _ => rfl) ?_
            refine pq_goto (pc' := 85) rfl rfl ?_
            refine pq_w [] trivial ?_
            exact J210 (-1) (⟨by decide, by decide⟩ : iR (-1)) (hW _ (by rw [if_neg (fun z => c9 z)]))
  unfold C_compareSize1 at hW
  refine pq_l (pc' := 1) rfl rfl rfl rfl rfl ?_
  refine pq_gi (pc' := 4) rfl rfl rfl rfl rfl (fun r211 => ?_)
  refine pq_l (pc' := 5) rfl rfl rfl rfl rfl ?_
  refine pq_gi (pc' := 8) rfl rfl rfl rfl rfl (fun r212 => ?_)
  refine pq_c_eq (pt := 28) (pc' := 11) rfl rfl rfl (fun c213 => ?_) (fun c213 => ?_)
  · have hW := hW.1 c213
    refine pq_l (pc' := 29) rfl rfl rfl rfl rfl ?_
    refine pq_gi (pc' := 32) rfl rfl rfl rfl rfl (fun r214 => ?_)
    refine pq_k (pc' := 33) (v := (0, 1)) rfl rfl rfl (fun _ => rfl) ?_
    refine pq_sub (pc' := 34) rfl rfl ?_
    refine pq_s (pc' := 35) rfl rfl rfl rfl rfl ?_
    refine pq_w [(0, (2, ((l0 : Nat) : Int))), (1, (2, ((l1 : Nat) : Int))), (2, (0, (w32 ((cgf s l0 1) - 1))))] ⟨rfl, rfl, rfl, trivial⟩ ?_
    obtain ⟨I9, hI9, hB9⟩ := hW
    exact J35 l0 l1 I9 hB9 N (by omega) (w32 ((cgf s l0 1) - 1)) (w32_r _) s hv hI9
  · have hW := hW.2 c213
    refine pq_l (pc' := 12) rfl rfl rfl rfl rfl ?_
    refine pq_gi (pc' := 15) rfl rfl rfl rfl rfl (fun r215 => ?_)
    refine pq_l (pc' := 16) rfl rfl rfl rfl rfl ?_
    refine pq_gi (pc' := 19) rfl rfl rfl rfl rfl (fun r216 => ?_)
    have J418 : ∀ v417 : Int, iR v417 → ((Q v417 s)) → pq L ys d N rm_p_X1_compareSize (27, [], [(0, v417)], s) (fun r : im_Re => ∃ z, r.1 = some (0, z) ∧ (jI r.2 ∧ iR z ∧ Q z r.2)) := by
      intro v417 v417r hW
      exact pq_iret rfl ⟨_, rfl, hv, v417r, hW⟩
    refine pq_c_ge (pt := 26) (pc' := 22) rfl rfl rfl (fun c217 => ?_) (fun c217 => ?_)
    · refine pq_k (pc' := 27) (v := (0, 1)) rfl rfl rfl (fun _ => rfl) ?_
      refine pq_w [] trivial ?_
      exact J418 1 (⟨by decide, by decide⟩ : iR 1) (hW _ (by rw [if_pos c217]))
    · refine pq_k (pc' := 23) (v := (0, (-1))) rfl rfl rfl (fun _ => rfl) ?_
      refine pq_goto (pc' := 27) rfl rfl ?_
      refine pq_w [] trivial ?_
      exact J418 (-1) (⟨by decide, by decide⟩ : iR (-1)) (hW _ (by rw [if_neg (fun z => c217 z)]))
def C_shiftUp1_43 (K43 : Int × im_S → Prop) (l0 : Nat) (l2 : Int) (l3 : Int) (l4 : Int) (l5 : Int) (s : im_S) (Q : im_S → Prop) : Prop := ((l5 < 0 → (∀ s2, s2 = cpf s l0 1 (w32 (l4 + 1)) → (C_trim1 l0 s2 (fun s3 => (Q s3))))) ∧ (¬ (l5 < 0) → (∀ v205 : Int, v205 = (if (w32 (l5 - l2)) < 0 then 0 else (if (cgf s l0 1) ≤ (w32 (l5 - l2)) then 0 else (andJ (cga s (l0 + 1) (w32 (l5 - l2))) 4294967295))) → (∀ v407 : Int, v407 = (if (w32 (l5 - l2)) < 1 then 0 else (if (cgf s l0 1) < (w32 (l5 - l2)) then 0 else (andJ (cga s (l0 + 1) (w32 ((w32 (l5 - l2)) - 1))) 4294967295))) → ((0 ≤ l5 ∧ l5 < gln (l0 + 1)) → ∀ s409, s409 = cpa s (l0 + 1) l5 (w32 (ushJ (shlJ (orJ (shlJ v205 32) v407) l3) 32)) → (K43 ((w32 (l5 + (-1))), s409)))))))
def C_shiftUp1_20 (s : im_S) (Q : im_S → Prop) : Prop := (Q s)
def C_shiftUp1 (l0 : Nat) (l1 : Int) (s : im_S) (Q : im_S → Prop) : Prop := ((l1 ≤ 0 → (C_shiftUp1_20 s Q)) ∧ (¬ (l1 ≤ 0) → ((¬ ((cgf s l0 2) = 0) → (C_J9_min_7cf53 (w32 ((gln (l0 + 1)) - 1)) (w32 ((cgf s l0 1) + (shrI l1 5))) s (fun z416 s415 => (ploop (fun (K : Int × im_S → Prop) (a : Int × im_S) => C_shiftUp1_43 K l0 (shrI l1 5) (andI l1 31) z416 a.1 a.2 Q) (z416, s415))))) ∧ ((cgf s l0 2) = 0 → (C_shiftUp1_20 s Q)))))
set_option maxRecDepth 16384 in
theorem c_shiftUp1 (L : Nat) (ys : Nat → Int32) (d : Nat) (s : im_S) (hv : jI s) (l0 : Nat) (l0n : nb l0) (l1 : Int) (l1r : iR l1) (Q : im_S → Prop) (hW : C_shiftUp1 l0 l1 s Q) : pcV L ys d 118 [(2, ((l0 : Nat) : Int)), (0, l1)] s (fun s9 => jI s9 ∧ Q s9) := by
  intro res hres
  refine pq_start (M := rm_p_X1_shiftUp) (Q := (fun r : im_Re => r.1 = none ∧ (jI r.2 ∧ Q r.2))) om_X1_shiftUp (fun d N => ?_) res hres
  refine pq_w [(0, (2, ((l0 : Nat) : Int))), (1, (0, l1))] ⟨rfl, rfl, trivial⟩ ?_
  have J43 : ∀ (l0 : Nat) (l0n : nb l0) (l2 : Int) (l2r : iR l2) (l3 : Int) (l3r : iR l3) (l4 : Int) (l4r : iR l4) (I43 : Int × im_S → Prop) (hB43 : ∀ a : Int × im_S, I43 a → C_shiftUp1_43 I43 l0 l2 l3 l4 a.1 a.2 Q), ∀ N43 : Nat, N43 ≤ N → ∀ (l5 : Int) (l5r : iR l5) (s : im_S) (hv : jI s), I43 (l5, s) → pq L ys d N43 rm_p_X1_shiftUp (43, [(0, (2, ((l0 : Nat) : Int))), (2, (0, l2)), (3, (0, l3)), (4, (0, l4)), (5, (0, l5))], [], s) (fun r : im_Re => r.1 = none ∧ (jI r.2 ∧ Q r.2)) := by
    intro l0 l0n l2 l2r l3 l3r l4 l4r I43 hB43 N43
    induction N43 using Nat.strongRecOn with
    | _ N43 ih43 =>
      intro hN43 l5 l5r s hv hI
      have hW : C_shiftUp1_43 I43 l0 l2 l3 l4 l5 s Q := hB43 (l5, s) hI
      unfold C_shiftUp1_43 at hW
      refine pq_l (pc' := 45) rfl rfl rfl rfl rfl ?_
      refine pq_z_lt (pt := 148) (pc' := 48) rfl rfl rfl (fun c1 => ?_) (fun c1 => ?_)
      · have hW := hW.1 c1
        refine pq_l (pc' := 149) rfl rfl rfl rfl rfl ?_
        refine pq_l (pc' := 151) rfl rfl rfl rfl rfl ?_
        refine pq_k (pc' := 152) (v := (0, 1)) rfl rfl rfl (fun _ => rfl) ?_
        refine pq_add (pc' := 153) rfl rfl ?_
        refine pq_pB (pc' := 156) rfl rfl rfl l0n hv (fun s2 s2e s2v => ?_)
        have hW := hW s2 s2e
        refine pq_l (pc' := 157) rfl rfl rfl rfl rfl ?_
        refine pq_cVV (pc' := 160) rfl rfl rfl rfl rfl (c_trim1 L ys d s2 s2v l0 l0n _ hW) (fun s3 hr => ?_)
        obtain ⟨s3v, hW⟩ := hr
        exact pq_vret rfl ⟨rfl, s3v, hW⟩
      · have hW := hW.2 c1
        refine pq_l (pc' := 50) rfl rfl rfl rfl rfl ?_
        refine pq_l (pc' := 51) rfl rfl rfl rfl rfl ?_
        refine pq_sub (pc' := 52) rfl rfl ?_
        refine pq_s (pc' := 54) rfl rfl rfl rfl rfl ?_
        refine pq_l (pc' := 56) rfl rfl rfl rfl rfl ?_
        have J206 : ∀ v205 : Int, lR v205 → ((∀ v407 : Int, v407 = (if (w32 (l5 - l2)) < 1 then 0 else (if (cgf s l0 1) < (w32 (l5 - l2)) then 0 else (andJ (cga s (l0 + 1) (w32 ((w32 (l5 - l2)) - 1))) 4294967295))) → ((0 ≤ l5 ∧ l5 < gln (l0 + 1)) → ∀ s409, s409 = cpa s (l0 + 1) l5 (w32 (ushJ (shlJ (orJ (shlJ v205 32) v407) l3) 32)) → (I43 ((w32 (l5 + (-1))), s409))))) → pq L ys d N43 rm_p_X1_shiftUp (84, [(0, (2, ((l0 : Nat) : Int))), (2, (0, l2)), (3, (0, l3)), (4, (0, l4)), (5, (0, l5)), (6, (0, (w32 (l5 - l2))))], [(1, v205)], s) (fun r : im_Re => r.1 = none ∧ (jI r.2 ∧ Q r.2)) := by
          intro v205 v205r hW
          refine pq_s2 (pc' := 86) rfl rfl rfl rfl rfl ?_
          refine pq_l (pc' := 88) rfl rfl rfl rfl rfl ?_
          refine pq_k (pc' := 89) (v := (0, 1)) rfl rfl rfl (fun _ => rfl) ?_
          have J408 : ∀ v407 : Int, lR v407 → (((0 ≤ l5 ∧ l5 < gln (l0 + 1)) → ∀ s409, s409 = cpa s (l0 + 1) l5 (w32 (ushJ (shlJ (orJ (shlJ v205 32) v407) l3) 32)) → (I43 ((w32 (l5 + (-1))), s409)))) → pq L ys d N43 rm_p_X1_shiftUp (119, [(0, (2, ((l0 : Nat) : Int))), (2, (0, l2)), (3, (0, l3)), (4, (0, l4)), (5, (0, l5)), (7, (1, v205))], [(1, v407)], s) (fun r : im_Re => r.1 = none ∧ (jI r.2 ∧ Q r.2)) := by
            intro v407 v407r hW
            refine pq_s2 (pc' := 121) rfl rfl rfl rfl rfl ?_
            refine pq_l (pc' := 122) rfl rfl rfl rfl rfl ?_
            refine pq_gr (pc' := 125) (c := (l0 + 1)) (v := 0) rfl rfl rfl rfl rfl rfl hv ?_
            refine pq_l (pc' := 127) rfl rfl rfl rfl rfl ?_
            refine pq_l (pc' := 129) rfl rfl rfl rfl rfl ?_
            refine pq_k (pc' := 131) (v := (0, 32)) rfl rfl rfl (fun _ => rfl) ?_
            refine pq_lshl (pc' := 132) rfl rfl ?_
            refine pq_l (pc' := 134) rfl rfl rfl rfl rfl ?_
            refine pq_lor (pc' := 135) rfl rfl ?_
            refine pq_l (pc' := 136) rfl rfl rfl rfl rfl ?_
            refine pq_lshl (pc' := 137) rfl rfl ?_
            refine pq_k (pc' := 139) (v := (0, 32)) rfl rfl rfl (fun _ => rfl) ?_
            refine pq_lushr (pc' := 140) rfl rfl ?_
            refine pq_l2i (pc' := 141) rfl rfl ?_
            refine pq_is (pc' := 142) rfl rfl (fun e => l0n.1 (Nat.succ.inj e)) (fun e => l0n.2 (Nat.succ.inj e)) hv (fun s409a s409b s409 s409e s409v => ?_)
            have hW := hW ⟨s409a, s409b⟩ s409 s409e
            refine pq_inc (pc' := 145) rfl rfl rfl rfl ?_
            refine pq_gotoT (pc' := 43) rfl rfl (fun m410 m410l => ?_)
            refine pq_w [(0, (2, ((l0 : Nat) : Int))), (2, (0, l2)), (3, (0, l3)), (4, (0, l4)), (5, (0, (w32 (l5 + (-1)))))] ⟨rfl, rfl, rfl, rfl, rfl, trivial⟩ ?_
            exact ih43 m410 (by omega) (by omega) (w32 (l5 + (-1))) (w32_r _) s409 s409v hW
          refine pq_c_lt (pt := 118) (pc' := 92) rfl rfl rfl (fun c207 => ?_) (fun c207 => ?_)
          · refine pq_k (pc' := 119) (v := (1, 0)) rfl rfl rfl (fun _ => rfl) ?_
            refine pq_w [(0, (2, ((l0 : Nat) : Int))), (2, (0, l2)), (3, (0, l3)), (4, (0, l4)), (5, (0, l5)), (7, (1, v205))] ⟨rfl, rfl, rfl, rfl, rfl, rfl, trivial⟩ ?_
            exact J408 0 (⟨by decide, by decide⟩ : lR 0) (hW _ (by rw [if_pos c207]))
          · refine pq_l (pc' := 94) rfl rfl rfl rfl rfl ?_
            refine pq_l (pc' := 95) rfl rfl rfl rfl rfl ?_
            refine pq_gi (pc' := 98) rfl rfl rfl rfl rfl (fun r208 => ?_)
            refine pq_c_gt (pt := 118) (pc' := 101) rfl rfl rfl (fun c209 => ?_) (fun c209 => ?_)
            · refine pq_k (pc' := 119) (v := (1, 0)) rfl rfl rfl (fun _ => rfl) ?_
              refine pq_w [(0, (2, ((l0 : Nat) : Int))), (2, (0, l2)), (3, (0, l3)), (4, (0, l4)), (5, (0, l5)), (7, (1, v205))] ⟨rfl, rfl, rfl, rfl, rfl, rfl, trivial⟩ ?_
              exact J408 0 (⟨by decide, by decide⟩ : lR 0) (hW _ (by rw [if_neg (fun z => c207 z), if_pos c209]))
            · refine pq_l (pc' := 102) rfl rfl rfl rfl rfl ?_
              refine pq_gr (pc' := 105) (c := (l0 + 1)) (v := 0) rfl rfl rfl rfl rfl rfl hv ?_
              refine pq_l (pc' := 107) rfl rfl rfl rfl rfl ?_
              refine pq_k (pc' := 108) (v := (0, 1)) rfl rfl rfl (fun _ => rfl) ?_
              refine pq_sub (pc' := 109) rfl rfl ?_
              refine pq_ia (pc' := 110) rfl rfl (fun r210a r210b r210 => ?_)
              refine pq_i2l (pc' := 111) rfl rfl r210 ?_
              refine pq_k (pc' := 114) (v := (1, 4294967295)) rfl rfl rfl (fun _ => rfl) ?_
              refine pq_land (pc' := 115) rfl rfl ?_
              refine pq_goto (pc' := 119) rfl rfl ?_
              refine pq_w [(0, (2, ((l0 : Nat) : Int))), (2, (0, l2)), (3, (0, l3)), (4, (0, l4)), (5, (0, l5)), (7, (1, v205))] ⟨rfl, rfl, rfl, rfl, rfl, rfl, trivial⟩ ?_
              exact J408 (andJ (cga s (l0 + 1) (w32 ((w32 (l5 - l2)) - 1))) 4294967295) (andJ_r _ _) (hW _ (by rw [if_neg (fun z => c207 z), if_neg (fun z => c209 z)]))
        refine pq_z_lt (pt := 83) (pc' := 59) rfl rfl rfl (fun c5 => ?_) (fun c5 => ?_)
        · refine pq_k (pc' := 84) (v := (1, 0)) rfl rfl rfl (fun _ => rfl) ?_
          refine pq_w [(0, (2, ((l0 : Nat) : Int))), (2, (0, l2)), (3, (0, l3)), (4, (0, l4)), (5, (0, l5)), (6, (0, (w32 (l5 - l2))))] ⟨rfl, rfl, rfl, rfl, rfl, rfl, trivial⟩ ?_
          exact J206 0 (⟨by decide, by decide⟩ : lR 0) (hW _ (by rw [if_pos c5]))
        · refine pq_l (pc' := 61) rfl rfl rfl rfl rfl ?_
          refine pq_l (pc' := 62) rfl rfl rfl rfl rfl ?_
          refine pq_gi (pc' := 65) rfl rfl rfl rfl rfl (fun r6 => ?_)
          refine pq_c_ge (pt := 83) (pc' := 68) rfl rfl rfl (fun c7 => ?_) (fun c7 => ?_)
          · refine pq_k (pc' := 84) (v := (1, 0)) rfl rfl rfl (fun _ => rfl) ?_
            refine pq_w [(0, (2, ((l0 : Nat) : Int))), (2, (0, l2)), (3, (0, l3)), (4, (0, l4)), (5, (0, l5)), (6, (0, (w32 (l5 - l2))))] ⟨rfl, rfl, rfl, rfl, rfl, rfl, trivial⟩ ?_
            exact J206 0 (⟨by decide, by decide⟩ : lR 0) (hW _ (by rw [if_neg (fun z => c5 z), if_pos c7]))
          · refine pq_l (pc' := 69) rfl rfl rfl rfl rfl ?_
            refine pq_gr (pc' := 72) (c := (l0 + 1)) (v := 0) rfl rfl rfl rfl rfl rfl hv ?_
            refine pq_l (pc' := 74) rfl rfl rfl rfl rfl ?_
            refine pq_ia (pc' := 75) rfl rfl (fun r8a r8b r8 => ?_)
            refine pq_i2l (pc' := 76) rfl rfl r8 ?_
            refine pq_k (pc' := 79) (v := (1, 4294967295)) rfl rfl rfl (fun _ => rfl) ?_
            refine pq_land (pc' := 80) rfl rfl ?_
            refine pq_goto (pc' := 84) rfl rfl ?_
            refine pq_w [(0, (2, ((l0 : Nat) : Int))), (2, (0, l2)), (3, (0, l3)), (4, (0, l4)), (5, (0, l5)), (6, (0, (w32 (l5 - l2))))] ⟨rfl, rfl, rfl, rfl, rfl, rfl, trivial⟩ ?_
            exact J206 (andJ (cga s (l0 + 1) (w32 (l5 - l2))) 4294967295) (andJ_r _ _) (hW _ (by rw [if_neg (fun z => c5 z), if_neg (fun z => c7 z)]))
  have J20 : ∀ N20 : Nat, N20 ≤ N → ∀ (s : im_S) (hv : jI s), C_shiftUp1_20 s Q → pq L ys d N20 rm_p_X1_shiftUp (20, [], [], s) (fun r : im_Re => r.1 = none ∧ (jI r.2 ∧ Q r.2)) := by
    intro N20 hN20 s hv hW
    unfold C_shiftUp1_20 at hW
    exact pq_vret rfl ⟨rfl, hv, hW⟩
  unfold C_shiftUp1 at hW
  refine pq_l (pc' := 1) rfl rfl rfl rfl rfl ?_
  refine pq_k (pc' := 2) (v := (0, 5)) rfl rfl rfl (fun _ => rfl) ?_
  refine pq_ishr (pc' := 3) rfl rfl ?_
  refine pq_s (pc' := 4) rfl rfl rfl rfl rfl ?_
  refine pq_l (pc' := 5) rfl rfl rfl rfl rfl ?_
  refine pq_k (pc' := 7) (v := (0, 31)) rfl rfl rfl (fun _ => rfl) ?_
  refine pq_iand (pc' := 8) rfl rfl ?_
  refine pq_s (pc' := 9) rfl rfl rfl rfl rfl ?_
  refine pq_l (pc' := 10) rfl rfl rfl rfl rfl ?_
  refine pq_z_le (pt := 20) (pc' := 13) rfl rfl rfl (fun c411 => ?_) (fun c411 => ?_)
  · have hW := hW.1 c411
    refine pq_w [] trivial ?_
    exact J20 N (by omega) s hv hW
  · have hW := hW.2 c411
    refine pq_l (pc' := 14) rfl rfl rfl rfl rfl ?_
    refine pq_gi (pc' := 17) rfl rfl rfl rfl rfl (fun r412 => ?_)
    refine pq_z_ne (pt := 21) (pc' := 20) rfl rfl rfl (fun c413 => ?_) (fun c413 => ?_)
    · have hW := hW.1 c413
      refine pq_l (pc' := 22) rfl rfl rfl rfl rfl ?_
      refine pq_gr (pc' := 25) (c := (l0 + 1)) (v := 0) rfl rfl rfl rfl rfl rfl hv ?_
      refine pq_alen (pc' := 26) rfl rfl ?_
      refine pq_k (pc' := 27) (v := (0, 1)) rfl rfl rfl (fun _ => rfl) ?_
      refine pq_sub (pc' := 28) rfl rfl ?_
      refine pq_l (pc' := 29) rfl rfl rfl rfl rfl ?_
      refine pq_gi (pc' := 32) rfl rfl rfl rfl rfl (fun r414 => ?_)
      refine pq_l (pc' := 33) rfl rfl rfl rfl rfl ?_
      refine pq_add (pc' := 34) rfl rfl ?_
      refine pq_cSI (pc' := 37) rfl rfl rfl rfl rfl (c_J9_min_7cf53 L ys d s hv (w32 ((gln (l0 + 1)) - 1)) (w32_r _) (w32 ((cgf s l0 1) + (shrI l1 5))) (w32_r _) _ hW) (fun z416 s415 hr => ?_)
      obtain ⟨s415v, z416r, hW⟩ := hr
      refine pq_s (pc' := 39) rfl rfl rfl rfl rfl ?_
      refine pq_l (pc' := 41) rfl rfl rfl rfl rfl ?_
      refine pq_s (pc' := 43) rfl rfl rfl rfl rfl ?_
      refine pq_w [(0, (2, ((l0 : Nat) : Int))), (2, (0, (shrI l1 5))), (3, (0, (andI l1 31))), (4, (0, z416)), (5, (0, z416))] ⟨rfl, rfl, rfl, rfl, rfl, trivial⟩ ?_
      obtain ⟨I9, hI9, hB9⟩ := hW
      exact J43 l0 l0n (shrI l1 5) (shrI_r _ _) (andI l1 31) (andI_r _ _) z416 z416r I9 hB9 N (by omega) z416 z416r s415 s415v hI9
    · have hW := hW.2 c413
      refine pq_w [] trivial ?_
      exact J20 N (by omega) s hv hW
def C_shiftDown1_24 (K24 : Int × im_S → Prop) (l0 : Nat) (l2 : Int) (l3 : Int) (l4 : Int) (s : im_S) (Q : im_S → Prop) : Prop := (((cgf s l0 1) ≤ l4 → (C_trim1 l0 s (fun s3 => (Q s3)))) ∧ (¬ ((cgf s l0 1) ≤ l4) → (∀ v206 : Int, v206 = (if (cgf s l0 1) ≤ (w32 (l4 + l2)) then 0 else (andJ (cga s (l0 + 1) (w32 (l4 + l2))) 4294967295)) → (∀ v409 : Int, v409 = (if (cgf s l0 1) ≤ (w32 ((w32 (l4 + l2)) + 1)) then 0 else (andJ (cga s (l0 + 1) (w32 ((w32 (l4 + l2)) + 1))) 4294967295)) → ((0 ≤ l4 ∧ l4 < gln (l0 + 1)) → ∀ s411, s411 = cpa s (l0 + 1) l4 (w32 (ushJ (orJ (shlJ v409 32) v206) l3)) → (K24 ((w32 (l4 + 1)), s411)))))))
def C_shiftDown1_20 (s : im_S) (Q : im_S → Prop) : Prop := (Q s)
def C_shiftDown1 (l0 : Nat) (l1 : Int) (s : im_S) (Q : im_S → Prop) : Prop := ((l1 ≤ 0 → (C_shiftDown1_20 s Q)) ∧ (¬ (l1 ≤ 0) → ((¬ ((cgf s l0 2) = 0) → (ploop (fun (K : Int × im_S → Prop) (a : Int × im_S) => C_shiftDown1_24 K l0 (shrI l1 5) (andI l1 31) a.1 a.2 Q) (0, s))) ∧ ((cgf s l0 2) = 0 → (C_shiftDown1_20 s Q)))))
set_option maxRecDepth 16384 in
theorem c_shiftDown1 (L : Nat) (ys : Nat → Int32) (d : Nat) (s : im_S) (hv : jI s) (l0 : Nat) (l0n : nb l0) (l1 : Int) (l1r : iR l1) (Q : im_S → Prop) (hW : C_shiftDown1 l0 l1 s Q) : pcV L ys d 117 [(2, ((l0 : Nat) : Int)), (0, l1)] s (fun s9 => jI s9 ∧ Q s9) := by
  intro res hres
  refine pq_start (M := rm_p_X1_shiftDown) (Q := (fun r : im_Re => r.1 = none ∧ (jI r.2 ∧ Q r.2))) om_X1_shiftDown (fun d N => ?_) res hres
  refine pq_w [(0, (2, ((l0 : Nat) : Int))), (1, (0, l1))] ⟨rfl, rfl, trivial⟩ ?_
  have J24 : ∀ (l0 : Nat) (l0n : nb l0) (l2 : Int) (l2r : iR l2) (l3 : Int) (l3r : iR l3) (I24 : Int × im_S → Prop) (hB24 : ∀ a : Int × im_S, I24 a → C_shiftDown1_24 I24 l0 l2 l3 a.1 a.2 Q), ∀ N24 : Nat, N24 ≤ N → ∀ (l4 : Int) (l4r : iR l4) (s : im_S) (hv : jI s), I24 (l4, s) → pq L ys d N24 rm_p_X1_shiftDown (24, [(0, (2, ((l0 : Nat) : Int))), (2, (0, l2)), (3, (0, l3)), (4, (0, l4))], [], s) (fun r : im_Re => r.1 = none ∧ (jI r.2 ∧ Q r.2)) := by
    intro l0 l0n l2 l2r l3 l3r I24 hB24 N24
    induction N24 using Nat.strongRecOn with
    | _ N24 ih24 =>
      intro hN24 l4 l4r s hv hI
      have hW : C_shiftDown1_24 I24 l0 l2 l3 l4 s Q := hB24 (l4, s) hI
      unfold C_shiftDown1_24 at hW
      refine pq_l (pc' := 26) rfl rfl rfl rfl rfl ?_
      refine pq_l (pc' := 27) rfl rfl rfl rfl rfl ?_
      refine pq_gi (pc' := 30) rfl rfl rfl rfl rfl (fun r1 => ?_)
      refine pq_c_ge (pt := 123) (pc' := 33) rfl rfl rfl (fun c2 => ?_) (fun c2 => ?_)
      · have hW := hW.1 c2
        refine pq_l (pc' := 124) rfl rfl rfl rfl rfl ?_
        refine pq_cVV (pc' := 127) rfl rfl rfl rfl rfl (c_trim1 L ys d s hv l0 l0n _ hW) (fun s3 hr => ?_)
        obtain ⟨s3v, hW⟩ := hr
        exact pq_vret rfl ⟨rfl, s3v, hW⟩
      · have hW := hW.2 c2
        refine pq_l (pc' := 35) rfl rfl rfl rfl rfl ?_
        refine pq_l (pc' := 36) rfl rfl rfl rfl rfl ?_
        refine pq_add (pc' := 37) rfl rfl ?_
        refine pq_l (pc' := 38) rfl rfl rfl rfl rfl ?_
        refine pq_gi (pc' := 41) rfl rfl rfl rfl rfl (fun r5 => ?_)
        have J207 : ∀ v206 : Int, lR v206 → ((∀ v409 : Int, v409 = (if (cgf s l0 1) ≤ (w32 ((w32 (l4 + l2)) + 1)) then 0 else (andJ (cga s (l0 + 1) (w32 ((w32 (l4 + l2)) + 1))) 4294967295)) → ((0 ≤ l4 ∧ l4 < gln (l0 + 1)) → ∀ s411, s411 = cpa s (l0 + 1) l4 (w32 (ushJ (orJ (shlJ v409 32) v206) l3)) → (I24 ((w32 (l4 + 1)), s411))))) → pq L ys d N24 rm_p_X1_shiftDown (62, [(0, (2, ((l0 : Nat) : Int))), (2, (0, l2)), (3, (0, l3)), (4, (0, l4))], [(1, v206)], s) (fun r : im_Re => r.1 = none ∧ (jI r.2 ∧ Q r.2)) := by
          intro v206 v206r hW
          refine pq_s2 (pc' := 64) rfl rfl rfl rfl rfl ?_
          refine pq_l (pc' := 66) rfl rfl rfl rfl rfl ?_
          refine pq_l (pc' := 67) rfl rfl rfl rfl rfl ?_
          refine pq_add (pc' := 68) rfl rfl ?_
          refine pq_k (pc' := 69) (v := (0, 1)) rfl rfl rfl (fun _ => rfl) ?_
          refine pq_add (pc' := 70) rfl rfl ?_
          refine pq_l (pc' := 71) rfl rfl rfl rfl rfl ?_
          refine pq_gi (pc' := 74) rfl rfl rfl rfl rfl (fun r208 => ?_)
          have J410 : ∀ v409 : Int, lR v409 → (((0 ≤ l4 ∧ l4 < gln (l0 + 1)) → ∀ s411, s411 = cpa s (l0 + 1) l4 (w32 (ushJ (orJ (shlJ v409 32) v206) l3)) → (I24 ((w32 (l4 + 1)), s411)))) → pq L ys d N24 rm_p_X1_shiftDown (97, [(0, (2, ((l0 : Nat) : Int))), (2, (0, l2)), (3, (0, l3)), (4, (0, l4)), (5, (1, v206))], [(1, v409)], s) (fun r : im_Re => r.1 = none ∧ (jI r.2 ∧ Q r.2)) := by
            intro v409 v409r hW
            refine pq_s2 (pc' := 99) rfl rfl rfl rfl rfl ?_
            refine pq_l (pc' := 100) rfl rfl rfl rfl rfl ?_
            refine pq_gr (pc' := 103) (c := (l0 + 1)) (v := 0) rfl rfl rfl rfl rfl rfl hv ?_
            refine pq_l (pc' := 105) rfl rfl rfl rfl rfl ?_
            refine pq_l (pc' := 107) rfl rfl rfl rfl rfl ?_
            refine pq_k (pc' := 109) (v := (0, 32)) rfl rfl rfl (fun _ => rfl) ?_
            refine pq_lshl (pc' := 110) rfl rfl ?_
            refine pq_l (pc' := 112) rfl rfl rfl rfl rfl ?_
            refine pq_lor (pc' := 113) rfl rfl ?_
            refine pq_l (pc' := 114) rfl rfl rfl rfl rfl ?_
            refine pq_lushr (pc' := 115) rfl rfl ?_
            refine pq_l2i (pc' := 116) rfl rfl ?_
            refine pq_is (pc' := 117) rfl rfl (fun e => l0n.1 (Nat.succ.inj e)) (fun e => l0n.2 (Nat.succ.inj e)) hv (fun s411a s411b s411 s411e s411v => ?_)
            have hW := hW ⟨s411a, s411b⟩ s411 s411e
            refine pq_inc (pc' := 120) rfl rfl rfl rfl ?_
            refine pq_gotoT (pc' := 24) rfl rfl (fun m412 m412l => ?_)
            refine pq_w [(0, (2, ((l0 : Nat) : Int))), (2, (0, l2)), (3, (0, l3)), (4, (0, (w32 (l4 + 1))))] ⟨rfl, rfl, rfl, rfl, trivial⟩ ?_
            exact ih24 m412 (by omega) (by omega) (w32 (l4 + 1)) (w32_r _) s411 s411v hW
          refine pq_c_ge (pt := 96) (pc' := 77) rfl rfl rfl (fun c209 => ?_) (fun c209 => ?_)
          · refine pq_k (pc' := 97) (v := (1, 0)) rfl rfl rfl (fun _ => rfl) ?_
            refine pq_w [(0, (2, ((l0 : Nat) : Int))), (2, (0, l2)), (3, (0, l3)), (4, (0, l4)), (5, (1, v206))] ⟨rfl, rfl, rfl, rfl, rfl, trivial⟩ ?_
            exact J410 0 (⟨by decide, by decide⟩ : lR 0) (hW _ (by rw [if_pos c209]))
          · refine pq_l (pc' := 78) rfl rfl rfl rfl rfl ?_
            refine pq_gr (pc' := 81) (c := (l0 + 1)) (v := 0) rfl rfl rfl rfl rfl rfl hv ?_
            refine pq_l (pc' := 83) rfl rfl rfl rfl rfl ?_
            refine pq_l (pc' := 84) rfl rfl rfl rfl rfl ?_
            refine pq_add (pc' := 85) rfl rfl ?_
            refine pq_k (pc' := 86) (v := (0, 1)) rfl rfl rfl (fun _ => rfl) ?_
            refine pq_add (pc' := 87) rfl rfl ?_
            refine pq_ia (pc' := 88) rfl rfl (fun r210a r210b r210 => ?_)
            refine pq_i2l (pc' := 89) rfl rfl r210 ?_
            refine pq_k (pc' := 92) (v := (1, 4294967295)) rfl rfl rfl (fun _ => rfl) ?_
            refine pq_land (pc' := 93) rfl rfl ?_
            refine pq_goto (pc' := 97) rfl rfl ?_
            refine pq_w [(0, (2, ((l0 : Nat) : Int))), (2, (0, l2)), (3, (0, l3)), (4, (0, l4)), (5, (1, v206))] ⟨rfl, rfl, rfl, rfl, rfl, trivial⟩ ?_
            exact J410 (andJ (cga s (l0 + 1) (w32 ((w32 (l4 + l2)) + 1))) 4294967295) (andJ_r _ _) (hW _ (by rw [if_neg (fun z => c209 z)]))
        refine pq_c_ge (pt := 61) (pc' := 44) rfl rfl rfl (fun c6 => ?_) (fun c6 => ?_)
        · refine pq_k (pc' := 62) (v := (1, 0)) rfl rfl rfl (fun _ => rfl) ?_
          refine pq_w [(0, (2, ((l0 : Nat) : Int))), (2, (0, l2)), (3, (0, l3)), (4, (0, l4))] ⟨rfl, rfl, rfl, rfl, trivial⟩ ?_
          exact J207 0 (⟨by decide, by decide⟩ : lR 0) (hW _ (by rw [if_pos c6]))
        · refine pq_l (pc' := 45) rfl rfl rfl rfl rfl ?_
          refine pq_gr (pc' := 48) (c := (l0 + 1)) (v := 0) rfl rfl rfl rfl rfl rfl hv ?_
          refine pq_l (pc' := 50) rfl rfl rfl rfl rfl ?_
          refine pq_l (pc' := 51) rfl rfl rfl rfl rfl ?_
          refine pq_add (pc' := 52) rfl rfl ?_
          refine pq_ia (pc' := 53) rfl rfl (fun r7a r7b r7 => ?_)
          refine pq_i2l (pc' := 54) rfl rfl r7 ?_
          refine pq_k (pc' := 57) (v := (1, 4294967295)) rfl rfl rfl (fun _ => rfl) ?_
          refine pq_land (pc' := 58) rfl rfl ?_
          refine pq_goto (pc' := 62) rfl rfl ?_
          refine pq_w [(0, (2, ((l0 : Nat) : Int))), (2, (0, l2)), (3, (0, l3)), (4, (0, l4))] ⟨rfl, rfl, rfl, rfl, trivial⟩ ?_
          exact J207 (andJ (cga s (l0 + 1) (w32 (l4 + l2))) 4294967295) (andJ_r _ _) (hW _ (by rw [if_neg (fun z => c6 z)]))
  have J20 : ∀ N20 : Nat, N20 ≤ N → ∀ (s : im_S) (hv : jI s), C_shiftDown1_20 s Q → pq L ys d N20 rm_p_X1_shiftDown (20, [], [], s) (fun r : im_Re => r.1 = none ∧ (jI r.2 ∧ Q r.2)) := by
    intro N20 hN20 s hv hW
    unfold C_shiftDown1_20 at hW
    exact pq_vret rfl ⟨rfl, hv, hW⟩
  unfold C_shiftDown1 at hW
  refine pq_l (pc' := 1) rfl rfl rfl rfl rfl ?_
  refine pq_k (pc' := 2) (v := (0, 5)) rfl rfl rfl (fun _ => rfl) ?_
  refine pq_ishr (pc' := 3) rfl rfl ?_
  refine pq_s (pc' := 4) rfl rfl rfl rfl rfl ?_
  refine pq_l (pc' := 5) rfl rfl rfl rfl rfl ?_
  refine pq_k (pc' := 7) (v := (0, 31)) rfl rfl rfl (fun _ => rfl) ?_
  refine pq_iand (pc' := 8) rfl rfl ?_
  refine pq_s (pc' := 9) rfl rfl rfl rfl rfl ?_
  refine pq_l (pc' := 10) rfl rfl rfl rfl rfl ?_
  refine pq_z_le (pt := 20) (pc' := 13) rfl rfl rfl (fun c413 => ?_) (fun c413 => ?_)
  · have hW := hW.1 c413
    refine pq_w [] trivial ?_
    exact J20 N (by omega) s hv hW
  · have hW := hW.2 c413
    refine pq_l (pc' := 14) rfl rfl rfl rfl rfl ?_
    refine pq_gi (pc' := 17) rfl rfl rfl rfl rfl (fun r414 => ?_)
    refine pq_z_ne (pt := 21) (pc' := 20) rfl rfl rfl (fun c415 => ?_) (fun c415 => ?_)
    · have hW := hW.1 c415
      refine pq_k (pc' := 22) (v := (0, 0)) rfl rfl rfl (fun _ => rfl) ?_
      refine pq_s (pc' := 24) rfl rfl rfl rfl rfl ?_
      refine pq_w [(0, (2, ((l0 : Nat) : Int))), (2, (0, (shrI l1 5))), (3, (0, (andI l1 31))), (4, (0, 0))] ⟨rfl, rfl, rfl, rfl, trivial⟩ ?_
      obtain ⟨I9, hI9, hB9⟩ := hW
      exact J24 l0 l0n (shrI l1 5) (shrI_r _ _) (andI l1 31) (andI_r _ _) I9 hB9 N (by omega) 0 (⟨by decide, by decide⟩ : iR 0) s hv hI9
    · have hW := hW.2 c415
      refine pq_w [] trivial ?_
      exact J20 N (by omega) s hv hW
def C_J9_max_7cf53 (l0 : Int) (l1 : Int) (s : im_S) (Q : Int → im_S → Prop) : Prop := (∀ v201 : Int, v201 = (if l0 < l1 then l1 else l0) → (Q v201 s))
set_option maxRecDepth 16384 in
theorem c_J9_max_7cf53 (L : Nat) (ys : Nat → Int32) (d : Nat) (s : im_S) (hv : jI s) (l0 : Int) (l0r : iR l0) (l1 : Int) (l1r : iR l1) (Q : Int → im_S → Prop) (hW : C_J9_max_7cf53 l0 l1 s Q) : pcI L ys 0 d 242 [(0, l0), (0, l1)] s (fun z9 s9 => jI s9 ∧ iR z9 ∧ Q z9 s9) := by
  intro res hres
  refine pq_start (M := rm_p_J9_max_7cf53) (Q := (fun r : im_Re => ∃ z, r.1 = some (0, z) ∧ (jI r.2 ∧ iR z ∧ Q z r.2))) om_J9_max_7cf53 (fun d N => ?_) res hres
  refine pq_w [(0, (0, l0)), (1, (0, l1))] ⟨rfl, rfl, trivial⟩ ?_
  unfold C_J9_max_7cf53 at hW
  refine pq_l (pc' := 1) rfl rfl rfl rfl rfl ?_
  refine pq_l (pc' := 2) rfl rfl rfl rfl rfl ?_
  have J202 : ∀ v201 : Int, iR v201 → ((Q v201 s)) → pq L ys d N rm_p_J9_max_7cf53 (10, [], [(0, v201)], s) (fun r : im_Re => ∃ z, r.1 = some (0, z) ∧ (jI r.2 ∧ iR z ∧ Q z r.2)) := by
    intro v201 v201r hW
    exact pq_iret rfl ⟨_, rfl, hv, v201r, hW⟩
  refine pq_c_lt (pt := 9) (pc' := 5) rfl rfl rfl (fun c1 => ?_) (fun c1 => ?_)
  · refine pq_l (pc' := 10) rfl rfl rfl rfl rfl ?_
    refine pq_w [] trivial ?_
    exact J202 l1 l1r (hW _ (by rw [if_pos c1]))
  · refine pq_l (pc' := 6) rfl rfl rfl rfl rfl ?_
    refine pq_goto (pc' := 10) rfl rfl ?_
    refine pq_w [] trivial ?_
    exact J202 l0 l0r (hW _ (by rw [if_neg (fun z => c1 z)]))
def C_grow1_179 (s : im_S) (Q : im_S → Prop) : Prop := (Q s)
def C_grow1_100 (K100 : Int × Int × im_S → Prop) (l0 : Nat) (l2 : Int) (l5 : Int) (s : im_S) (Q : im_S → Prop) : Prop := ((l2 = 0 → (C_grow1_179 s Q)) ∧ (¬ (l2 = 0) → (((gln (l0 + 1)) ≤ l5 → (C_grow1_179 s Q)) ∧ (¬ ((gln (l0 + 1)) ≤ l5) → (∀ v205 : Int, v205 = (if (cgf s l0 1) ≤ l5 then 0 else (andJ (cga s (l0 + 1) l5) 4294967295)) → ((0 ≤ l5 ∧ l5 < gln (l0 + 1)) → ∀ s207, s207 = cpa s (l0 + 1) l5 (w32 (w64 (l2 + v205))) → (C_J9_max_7cf53 (cgf s207 l0 1) (w32 (l5 + 1)) s207 (fun z210 s209 => (∀ s211, s211 = cpf s209 l0 1 z210 → (K100 ((ushJ (w64 (l2 + v205)) 32), (w32 (l5 + 1)), s211)))))))))))
def C_grow1_19 (K19 : Int × Int × im_S → Prop) (l0 : Nat) (l1 : Nat) (l4 : Int) (l2 : Int) (l5 : Int) (s : im_S) (Q : im_S → Prop) : Prop := ((l4 ≤ l5 → (C_J9_max_7cf53 (cgf s l0 1) l4 s (fun z216 s215 => (∀ s217, s217 = cpf s215 l0 1 z216 → (ploop (fun (K : Int × Int × im_S → Prop) (a : Int × Int × im_S) => C_grow1_100 K l0 a.1 a.2.1 a.2.2 Q) (l2, l5, s217)))))) ∧ (¬ (l4 ≤ l5) → (caI s (l1 + 1) l5 → (∀ v420 : Int, v420 = (if (cgf s l0 1) ≤ l5 then 0 else (andJ (cga s (l0 + 1) l5) 4294967295)) → ((0 ≤ l5 ∧ l5 < gln (l0 + 1)) → ∀ s422, s422 = cpa s (l0 + 1) l5 (w32 (w64 (l2 + (w64 ((andJ (cga s (l1 + 1) l5) 4294967295) + v420))))) → (K19 ((ushJ (w64 (l2 + (w64 ((andJ (cga s (l1 + 1) l5) 4294967295) + v420)))) 32), (w32 (l5 + 1)), s422)))))))
def C_grow1 (l0 : Nat) (l1 : Nat) (s : im_S) (Q : im_S → Prop) : Prop := (C_J9_min_7cf53 (cgf s l1 1) (gln (l0 + 1)) s (fun z426 s425 => (ploop (fun (K : Int × Int × im_S → Prop) (a : Int × Int × im_S) => C_grow1_19 K l0 l1 z426 a.1 a.2.1 a.2.2 Q) (0, 0, s425))))
set_option maxRecDepth 16384 in
theorem c_grow1 (L : Nat) (ys : Nat → Int32) (d : Nat) (s : im_S) (hv : jI s) (l0 : Nat) (l0n : nb l0) (l1 : Nat) (Q : im_S → Prop) (hW : C_grow1 l0 l1 s Q) : pcV L ys d 112 [(2, ((l0 : Nat) : Int)), (2, ((l1 : Nat) : Int))] s (fun s9 => jI s9 ∧ Q s9) := by
  intro res hres
  refine pq_start (M := rm_p_X1_grow) (Q := (fun r : im_Re => r.1 = none ∧ (jI r.2 ∧ Q r.2))) om_X1_grow (fun d N => ?_) res hres
  refine pq_w [(0, (2, ((l0 : Nat) : Int))), (1, (2, ((l1 : Nat) : Int)))] ⟨rfl, rfl, trivial⟩ ?_
  have J179 : ∀ N179 : Nat, N179 ≤ N → ∀ (s : im_S) (hv : jI s), C_grow1_179 s Q → pq L ys d N179 rm_p_X1_grow (179, [], [], s) (fun r : im_Re => r.1 = none ∧ (jI r.2 ∧ Q r.2)) := by
    intro N179 hN179 s hv hW
    unfold C_grow1_179 at hW
    exact pq_vret rfl ⟨rfl, hv, hW⟩
  have J100 : ∀ (l0 : Nat) (l0n : nb l0) (I100 : Int × Int × im_S → Prop) (hB100 : ∀ a : Int × Int × im_S, I100 a → C_grow1_100 I100 l0 a.1 a.2.1 a.2.2 Q), ∀ N100 : Nat, N100 ≤ N → ∀ (l2 : Int) (l2r : lR l2) (l5 : Int) (l5r : iR l5) (s : im_S) (hv : jI s), I100 (l2, l5, s) → pq L ys d N100 rm_p_X1_grow (100, [(0, (2, ((l0 : Nat) : Int))), (2, (1, l2)), (5, (0, l5))], [], s) (fun r : im_Re => r.1 = none ∧ (jI r.2 ∧ Q r.2)) := by
    intro l0 l0n I100 hB100 N100
    induction N100 using Nat.strongRecOn with
    | _ N100 ih100 =>
      intro hN100 l2 l2r l5 l5r s hv hI
      have hW : C_grow1_100 I100 l0 l2 l5 s Q := hB100 (l2, l5, s) hI
      unfold C_grow1_100 at hW
      refine pq_l (pc' := 101) rfl rfl rfl rfl rfl ?_
      refine pq_k (pc' := 102) (v := (1, 0)) rfl rfl rfl (fun _ => rfl) ?_
      refine pq_lcmp (pc' := 103) rfl rfl l2r (⟨by decide, by decide⟩ : lR 0) (fun z1 z1c => ?_)
      refine pq_z_eq (pt := 179) (pc' := 106) rfl rfl rfl (fun c2 => ?_) (fun c2 => ?_)
      · have c2 : l2 = 0 := by omega
        have hW := hW.1 c2
        refine pq_w [] trivial ?_
        exact J179 N100 (by omega) s hv hW
      · have c2 : ¬ (l2 = 0) := by omega
        have hW := hW.2 c2
        refine pq_l (pc' := 108) rfl rfl rfl rfl rfl ?_
        refine pq_l (pc' := 109) rfl rfl rfl rfl rfl ?_
        refine pq_gr (pc' := 112) (c := (l0 + 1)) (v := 0) rfl rfl rfl rfl rfl rfl hv ?_
        refine pq_alen (pc' := 113) rfl rfl ?_
        refine pq_c_ge (pt := 179) (pc' := 116) rfl rfl rfl (fun c3 => ?_) (fun c3 => ?_)
        · have hW := hW.1 c3
          refine pq_w [] trivial ?_
          exact J179 N100 (by omega) s hv hW
        · have hW := hW.2 c3
          refine pq_l (pc' := 117) rfl rfl rfl rfl rfl ?_
          refine pq_l (pc' := 119) rfl rfl rfl rfl rfl ?_
          refine pq_l (pc' := 120) rfl rfl rfl rfl rfl ?_
          refine pq_gi (pc' := 123) rfl rfl rfl rfl rfl (fun r4 => ?_)
          have J206 : ∀ v205 : Int, lR v205 → (((0 ≤ l5 ∧ l5 < gln (l0 + 1)) → ∀ s207, s207 = cpa s (l0 + 1) l5 (w32 (w64 (l2 + v205))) → (C_J9_max_7cf53 (cgf s207 l0 1) (w32 (l5 + 1)) s207 (fun z210 s209 => (∀ s211, s211 = cpf s209 l0 1 z210 → (I100 ((ushJ (w64 (l2 + v205)) 32), (w32 (l5 + 1)), s211))))))) → pq L ys d N100 rm_p_X1_grow (142, [(0, (2, ((l0 : Nat) : Int))), (5, (0, l5))], [(1, v205), (1, l2)], s) (fun r : im_Re => r.1 = none ∧ (jI r.2 ∧ Q r.2)) := by
            intro v205 v205r hW
            refine pq_ladd (pc' := 143) rfl rfl ?_
            refine pq_s2 (pc' := 144) rfl rfl rfl rfl rfl ?_
            refine pq_l (pc' := 145) rfl rfl rfl rfl rfl ?_
            refine pq_gr (pc' := 148) (c := (l0 + 1)) (v := 0) rfl rfl rfl rfl rfl rfl hv ?_
            refine pq_l (pc' := 150) rfl rfl rfl rfl rfl ?_
            refine pq_l (pc' := 151) rfl rfl rfl rfl rfl ?_
            refine pq_l2i (pc' := 152) rfl rfl ?_
            refine pq_is (pc' := 153) rfl rfl (fun e => l0n.1 (Nat.succ.inj e)) (fun e => l0n.2 (Nat.succ.inj e)) hv (fun s207a s207b s207 s207e s207v => ?_)
            have hW := hW ⟨s207a, s207b⟩ s207 s207e
            refine pq_l (pc' := 154) rfl rfl rfl rfl rfl ?_
            refine pq_k (pc' := 156) (v := (0, 32)) rfl rfl rfl (fun _ => rfl) ?_
            refine pq_lushr (pc' := 157) rfl rfl ?_
            refine pq_s2 (pc' := 158) rfl rfl rfl rfl rfl ?_
            refine pq_l (pc' := 159) rfl rfl rfl rfl rfl ?_
            refine pq_l (pc' := 160) rfl rfl rfl rfl rfl ?_
            refine pq_gi (pc' := 163) rfl rfl rfl rfl rfl (fun r208 => ?_)
            refine pq_l (pc' := 165) rfl rfl rfl rfl rfl ?_
            refine pq_k (pc' := 166) (v := (0, 1)) rfl rfl rfl (fun _ => rfl) ?_
            refine pq_add (pc' := 167) rfl rfl ?_
            refine pq_cSI (pc' := 170) rfl rfl rfl rfl rfl (c_J9_max_7cf53 L ys d s207 s207v (cgf s207 l0 1) r208 (w32 (l5 + 1)) (w32_r _) _ hW) (fun z210 s209 hr => ?_)
            obtain ⟨s209v, z210r, hW⟩ := hr
            refine pq_pB (pc' := 173) rfl rfl rfl l0n s209v (fun s211 s211e s211v => ?_)
            have hW := hW s211 s211e
            refine pq_inc (pc' := 176) rfl rfl rfl rfl ?_
            refine pq_gotoT (pc' := 100) rfl rfl (fun m212 m212l => ?_)
            refine pq_w [(0, (2, ((l0 : Nat) : Int))), (2, (1, (ushJ (w64 (l2 + v205)) 32))), (5, (0, (w32 (l5 + 1))))] ⟨rfl, rfl, rfl, trivial⟩ ?_
            exact ih100 m212 (by omega) (by omega) (ushJ (w64 (l2 + v205)) 32) (ushJ_r _ _) (w32 (l5 + 1)) (w32_r _) s211 s211v hW
          refine pq_c_ge (pt := 141) (pc' := 126) rfl rfl rfl (fun c5 => ?_) (fun c5 => ?_)
          · refine pq_k (pc' := 142) (v := (1, 0)) rfl rfl rfl (fun _ => rfl) ?_
            refine pq_w [(0, (2, ((l0 : Nat) : Int))), (5, (0, l5))] ⟨rfl, rfl, trivial⟩ ?_
            exact J206 0 (⟨by decide, by decide⟩ : lR 0) (hW _ (by rw [if_pos c5]))
          · refine pq_l (pc' := 127) rfl rfl rfl rfl rfl ?_
            refine pq_gr (pc' := 130) (c := (l0 + 1)) (v := 0) rfl rfl rfl rfl rfl rfl hv ?_
            refine pq_l (pc' := 132) rfl rfl rfl rfl rfl ?_
            refine pq_ia (pc' := 133) rfl rfl (fun r6a r6b r6 => ?_)
            refine pq_i2l (pc' := 134) rfl rfl r6 ?_
            refine pq_k (pc' := 137) (v := (1, 4294967295)) rfl rfl rfl (fun _ => rfl) ?_
            refine pq_land (pc' := 138) rfl rfl ?_
            refine pq_goto (pc' := 142) rfl rfl ?_
            refine pq_w [(0, (2, ((l0 : Nat) : Int))), (5, (0, l5))] ⟨rfl, rfl, trivial⟩ ?_
            exact J206 (andJ (cga s (l0 + 1) l5) 4294967295) (andJ_r _ _) (hW _ (by rw [if_neg (fun z => c5 z)]))
  have J19 : ∀ (l0 : Nat) (l0n : nb l0) (l1 : Nat) (l4 : Int) (l4r : iR l4) (I19 : Int × Int × im_S → Prop) (hB19 : ∀ a : Int × Int × im_S, I19 a → C_grow1_19 I19 l0 l1 l4 a.1 a.2.1 a.2.2 Q), ∀ N19 : Nat, N19 ≤ N → ∀ (l2 : Int) (l2r : lR l2) (l5 : Int) (l5r : iR l5) (s : im_S) (hv : jI s), I19 (l2, l5, s) → pq L ys d N19 rm_p_X1_grow (19, [(0, (2, ((l0 : Nat) : Int))), (1, (2, ((l1 : Nat) : Int))), (2, (1, l2)), (4, (0, l4)), (5, (0, l5))], [], s) (fun r : im_Re => r.1 = none ∧ (jI r.2 ∧ Q r.2)) := by
    intro l0 l0n l1 l4 l4r I19 hB19 N19
    induction N19 using Nat.strongRecOn with
    | _ N19 ih19 =>
      intro hN19 l2 l2r l5 l5r s hv hI
      have hW : C_grow1_19 I19 l0 l1 l4 l2 l5 s Q := hB19 (l2, l5, s) hI
      unfold C_grow1_19 at hW
      refine pq_l (pc' := 21) rfl rfl rfl rfl rfl ?_
      refine pq_l (pc' := 23) rfl rfl rfl rfl rfl ?_
      refine pq_c_ge (pt := 87) (pc' := 26) rfl rfl rfl (fun c213 => ?_) (fun c213 => ?_)
      · have hW := hW.1 c213
        refine pq_l (pc' := 88) rfl rfl rfl rfl rfl ?_
        refine pq_l (pc' := 89) rfl rfl rfl rfl rfl ?_
        refine pq_gi (pc' := 92) rfl rfl rfl rfl rfl (fun r214 => ?_)
        refine pq_l (pc' := 94) rfl rfl rfl rfl rfl ?_
        refine pq_cSI (pc' := 97) rfl rfl rfl rfl rfl (c_J9_max_7cf53 L ys d s hv (cgf s l0 1) r214 l4 l4r _ hW) (fun z216 s215 hr => ?_)
        obtain ⟨s215v, z216r, hW⟩ := hr
        refine pq_pB (pc' := 100) rfl rfl rfl l0n s215v (fun s217 s217e s217v => ?_)
        have hW := hW s217 s217e
        refine pq_w [(0, (2, ((l0 : Nat) : Int))), (2, (1, l2)), (5, (0, l5))] ⟨rfl, rfl, rfl, trivial⟩ ?_
        obtain ⟨I9, hI9, hB9⟩ := hW
        exact J100 l0 l0n I9 hB9 N19 (by omega) l2 l2r l5 l5r s217 s217v hI9
      · have hW := hW.2 c213
        refine pq_l (pc' := 27) rfl rfl rfl rfl rfl ?_
        refine pq_l (pc' := 28) rfl rfl rfl rfl rfl ?_
        refine pq_gr (pc' := 31) (c := (l1 + 1)) (v := 0) rfl rfl rfl rfl rfl rfl hv ?_
        refine pq_l (pc' := 33) rfl rfl rfl rfl rfl ?_
        refine pq_ia (pc' := 34) rfl rfl (fun r218a r218b r218 => ?_)
        have hW := hW ⟨⟨r218a, r218b⟩, r218⟩
        refine pq_i2l (pc' := 35) rfl rfl r218 ?_
        refine pq_k (pc' := 38) (v := (1, 4294967295)) rfl rfl rfl (fun _ => rfl) ?_
        refine pq_land (pc' := 39) rfl rfl ?_
        refine pq_l (pc' := 41) rfl rfl rfl rfl rfl ?_
        refine pq_l (pc' := 42) rfl rfl rfl rfl rfl ?_
        refine pq_gi (pc' := 45) rfl rfl rfl rfl rfl (fun r219 => ?_)
        have J421 : ∀ v420 : Int, lR v420 → (((0 ≤ l5 ∧ l5 < gln (l0 + 1)) → ∀ s422, s422 = cpa s (l0 + 1) l5 (w32 (w64 (l2 + (w64 ((andJ (cga s (l1 + 1) l5) 4294967295) + v420))))) → (I19 ((ushJ (w64 (l2 + (w64 ((andJ (cga s (l1 + 1) l5) 4294967295) + v420)))) 32), (w32 (l5 + 1)), s422)))) → pq L ys d N19 rm_p_X1_grow (64, [(0, (2, ((l0 : Nat) : Int))), (1, (2, ((l1 : Nat) : Int))), (4, (0, l4)), (5, (0, l5))], [(1, v420), (1, (andJ (cga s (l1 + 1) l5) 4294967295)), (1, l2)], s) (fun r : im_Re => r.1 = none ∧ (jI r.2 ∧ Q r.2)) := by
          intro v420 v420r hW
          refine pq_ladd (pc' := 65) rfl rfl ?_
          refine pq_ladd (pc' := 66) rfl rfl ?_
          refine pq_s2 (pc' := 67) rfl rfl rfl rfl rfl ?_
          refine pq_l (pc' := 68) rfl rfl rfl rfl rfl ?_
          refine pq_gr (pc' := 71) (c := (l0 + 1)) (v := 0) rfl rfl rfl rfl rfl rfl hv ?_
          refine pq_l (pc' := 73) rfl rfl rfl rfl rfl ?_
          refine pq_l (pc' := 74) rfl rfl rfl rfl rfl ?_
          refine pq_l2i (pc' := 75) rfl rfl ?_
          refine pq_is (pc' := 76) rfl rfl (fun e => l0n.1 (Nat.succ.inj e)) (fun e => l0n.2 (Nat.succ.inj e)) hv (fun s422a s422b s422 s422e s422v => ?_)
          have hW := hW ⟨s422a, s422b⟩ s422 s422e
          refine pq_l (pc' := 77) rfl rfl rfl rfl rfl ?_
          refine pq_k (pc' := 79) (v := (0, 32)) rfl rfl rfl (fun _ => rfl) ?_
          refine pq_lushr (pc' := 80) rfl rfl ?_
          refine pq_s2 (pc' := 81) rfl rfl rfl rfl rfl ?_
          refine pq_inc (pc' := 84) rfl rfl rfl rfl ?_
          refine pq_gotoT (pc' := 19) rfl rfl (fun m423 m423l => ?_)
          refine pq_w [(0, (2, ((l0 : Nat) : Int))), (1, (2, ((l1 : Nat) : Int))), (2, (1, (ushJ (w64 (l2 + (w64 ((andJ (cga s (l1 + 1) l5) 4294967295) + v420)))) 32))), (4, (0, l4)), (5, (0, (w32 (l5 + 1))))] ⟨rfl, rfl, rfl, rfl, rfl, trivial⟩ ?_
          exact ih19 m423 (by omega) (by omega) (ushJ (w64 (l2 + (w64 ((andJ (cga s (l1 + 1) l5) 4294967295) + v420)))) 32) (ushJ_r _ _) (w32 (l5 + 1)) (w32_r _) s422 s422v hW
        refine pq_c_ge (pt := 63) (pc' := 48) rfl rfl rfl (fun c220 => ?_) (fun c220 => ?_)
        · refine pq_k (pc' := 64) (v := (1, 0)) rfl rfl rfl (fun _ => rfl) ?_
          refine pq_w [(0, (2, ((l0 : Nat) : Int))), (1, (2, ((l1 : Nat) : Int))), (4, (0, l4)), (5, (0, l5))] ⟨rfl, rfl, rfl, rfl, trivial⟩ ?_
          exact J421 0 (⟨by decide, by decide⟩ : lR 0) (hW _ (by rw [if_pos c220]))
        · refine pq_l (pc' := 49) rfl rfl rfl rfl rfl ?_
          refine pq_gr (pc' := 52) (c := (l0 + 1)) (v := 0) rfl rfl rfl rfl rfl rfl hv ?_
          refine pq_l (pc' := 54) rfl rfl rfl rfl rfl ?_
          refine pq_ia (pc' := 55) rfl rfl (fun r221a r221b r221 => ?_)
          refine pq_i2l (pc' := 56) rfl rfl r221 ?_
          refine pq_k (pc' := 59) (v := (1, 4294967295)) rfl rfl rfl (fun _ => rfl) ?_
          refine pq_land (pc' := 60) rfl rfl ?_
          refine pq_goto (pc' := 64) rfl rfl ?_
          refine pq_w [(0, (2, ((l0 : Nat) : Int))), (1, (2, ((l1 : Nat) : Int))), (4, (0, l4)), (5, (0, l5))] ⟨rfl, rfl, rfl, rfl, trivial⟩ ?_
          exact J421 (andJ (cga s (l0 + 1) l5) 4294967295) (andJ_r _ _) (hW _ (by rw [if_neg (fun z => c220 z)]))
  unfold C_grow1 at hW
  refine pq_k (pc' := 1) (v := (1, 0)) rfl rfl rfl (fun _ => rfl) ?_
  refine pq_s2 (pc' := 2) rfl rfl rfl rfl rfl ?_
  refine pq_l (pc' := 3) rfl rfl rfl rfl rfl ?_
  refine pq_gi (pc' := 6) rfl rfl rfl rfl rfl (fun r424 => ?_)
  refine pq_l (pc' := 7) rfl rfl rfl rfl rfl ?_
  refine pq_gr (pc' := 10) (c := (l0 + 1)) (v := 0) rfl rfl rfl rfl rfl rfl hv ?_
  refine pq_alen (pc' := 11) rfl rfl ?_
  refine pq_cSI (pc' := 14) rfl rfl rfl rfl rfl (c_J9_min_7cf53 L ys d s hv (cgf s l1 1) r424 (gln (l0 + 1)) (gln_r _) _ hW) (fun z426 s425 hr => ?_)
  obtain ⟨s425v, z426r, hW⟩ := hr
  refine pq_s (pc' := 16) rfl rfl rfl rfl rfl ?_
  refine pq_k (pc' := 17) (v := (0, 0)) rfl rfl rfl (fun _ => rfl) ?_
  refine pq_s (pc' := 19) rfl rfl rfl rfl rfl ?_
  refine pq_w [(0, (2, ((l0 : Nat) : Int))), (1, (2, ((l1 : Nat) : Int))), (2, (1, 0)), (4, (0, z426)), (5, (0, 0))] ⟨rfl, rfl, rfl, rfl, rfl, trivial⟩ ?_
  obtain ⟨I9, hI9, hB9⟩ := hW
  exact J19 l0 l0n l1 z426 z426r I9 hB9 N (by omega) 0 (⟨by decide, by decide⟩ : lR 0) 0 (⟨by decide, by decide⟩ : iR 0) s425 s425v hI9
def C_shrink1_183 (s : im_S) (Q : im_S → Prop) : Prop := (Q s)
def C_shrink1_134 (K134 : Int × Int × im_S → Prop) (l0 : Nat) (l4 : Int) (l5 : Int) (l7 : Int) (s : im_S) (Q : im_S → Prop) : Prop := ((l4 ≤ l7 → (C_shrink1_183 s Q)) ∧ (¬ (l4 ≤ l7) → (caI s (l0 + 1) l7 → ((0 ≤ l7 ∧ l7 < gln (l0 + 1)) → ∀ s3, s3 = cpa s (l0 + 1) l7 (w32 (w64 (l5 + (andJ (xorI (cga s (l0 + 1) l7) (-1)) 4294967295)))) → (K134 ((ushJ (w64 (l5 + (andJ (xorI (cga s (l0 + 1) l7) (-1)) 4294967295))) 32), (w32 (l7 + 1)), s3))))))
def C_shrink1_26 (K26 : Int × Int × im_S → Prop) (l0 : Nat) (l1 : Nat) (l4 : Int) (l2 : Int) (l5 : Int) (s : im_S) (Q : im_S → Prop) : Prop := ((l4 ≤ l5 → (∀ s6, s6 = cpf s l0 1 l4 → ((l2 = 0 → (C_shrink1_183 s6 Q)) ∧ (¬ (l2 = 0) → (∀ s10, s10 = cpf s6 l0 2 (w32 (-(cgf s6 l0 2))) → (ploop (fun (K : Int × Int × im_S → Prop) (a : Int × Int × im_S) => C_shrink1_134 K l0 l4 a.1 a.2.1 a.2.2 Q) (1, 0, s10))))))) ∧ (¬ (l4 ≤ l5) → (∀ v212 : Int, v212 = (if (cgf s l0 1) ≤ l5 then 0 else (andJ (cga s (l0 + 1) l5) 4294967295)) → (∀ v415 : Int, v415 = (if (cgf s l1 1) ≤ l5 then 0 else (andJ (cga s (l1 + 1) l5) 4294967295)) → ((0 ≤ l5 ∧ l5 < gln (l0 + 1)) → ∀ s417, s417 = cpa s (l0 + 1) l5 (w32 (w64 (l2 + (w64 (v212 - v415))))) → (K26 ((shrJ (w64 (l2 + (w64 (v212 - v415)))) 32), (w32 (l5 + 1)), s417)))))))
def C_shrink1 (l0 : Nat) (l1 : Nat) (s : im_S) (Q : im_S → Prop) : Prop := (C_J9_max_7cf53 (cgf s l0 1) (cgf s l1 1) s (fun z422 s421 => (C_J9_min_7cf53 z422 (gln (l0 + 1)) s421 (fun z424 s423 => (ploop (fun (K : Int × Int × im_S → Prop) (a : Int × Int × im_S) => C_shrink1_26 K l0 l1 z424 a.1 a.2.1 a.2.2 Q) (0, 0, s423))))))
set_option maxRecDepth 16384 in
theorem c_shrink1 (L : Nat) (ys : Nat → Int32) (d : Nat) (s : im_S) (hv : jI s) (l0 : Nat) (l0n : nb l0) (l1 : Nat) (Q : im_S → Prop) (hW : C_shrink1 l0 l1 s Q) : pcV L ys d 119 [(2, ((l0 : Nat) : Int)), (2, ((l1 : Nat) : Int))] s (fun s9 => jI s9 ∧ Q s9) := by
  intro res hres
  refine pq_start (M := rm_p_X1_shrink) (Q := (fun r : im_Re => r.1 = none ∧ (jI r.2 ∧ Q r.2))) om_X1_shrink (fun d N => ?_) res hres
  refine pq_w [(0, (2, ((l0 : Nat) : Int))), (1, (2, ((l1 : Nat) : Int)))] ⟨rfl, rfl, trivial⟩ ?_
  have J183 : ∀ N183 : Nat, N183 ≤ N → ∀ (s : im_S) (hv : jI s), C_shrink1_183 s Q → pq L ys d N183 rm_p_X1_shrink (183, [], [], s) (fun r : im_Re => r.1 = none ∧ (jI r.2 ∧ Q r.2)) := by
    intro N183 hN183 s hv hW
    unfold C_shrink1_183 at hW
    exact pq_vret rfl ⟨rfl, hv, hW⟩
  have J134 : ∀ (l0 : Nat) (l0n : nb l0) (l4 : Int) (l4r : iR l4) (I134 : Int × Int × im_S → Prop) (hB134 : ∀ a : Int × Int × im_S, I134 a → C_shrink1_134 I134 l0 l4 a.1 a.2.1 a.2.2 Q), ∀ N134 : Nat, N134 ≤ N → ∀ (l5 : Int) (l5r : lR l5) (l7 : Int) (l7r : iR l7) (s : im_S) (hv : jI s), I134 (l5, l7, s) → pq L ys d N134 rm_p_X1_shrink (134, [(0, (2, ((l0 : Nat) : Int))), (4, (0, l4)), (5, (1, l5)), (7, (0, l7))], [], s) (fun r : im_Re => r.1 = none ∧ (jI r.2 ∧ Q r.2)) := by
    intro l0 l0n l4 l4r I134 hB134 N134
    induction N134 using Nat.strongRecOn with
    | _ N134 ih134 =>
      intro hN134 l5 l5r l7 l7r s hv hI
      have hW : C_shrink1_134 I134 l0 l4 l5 l7 s Q := hB134 (l5, l7, s) hI
      unfold C_shrink1_134 at hW
      refine pq_l (pc' := 136) rfl rfl rfl rfl rfl ?_
      refine pq_l (pc' := 138) rfl rfl rfl rfl rfl ?_
      refine pq_c_ge (pt := 183) (pc' := 141) rfl rfl rfl (fun c1 => ?_) (fun c1 => ?_)
      · have hW := hW.1 c1
        refine pq_w [] trivial ?_
        exact J183 N134 (by omega) s hv hW
      · have hW := hW.2 c1
        refine pq_l (pc' := 143) rfl rfl rfl rfl rfl ?_
        refine pq_l (pc' := 144) rfl rfl rfl rfl rfl ?_
        refine pq_gr (pc' := 147) (c := (l0 + 1)) (v := 0) rfl rfl rfl rfl rfl rfl hv ?_
        refine pq_l (pc' := 149) rfl rfl rfl rfl rfl ?_
        refine pq_ia (pc' := 150) rfl rfl (fun r2a r2b r2 => ?_)
        have hW := hW ⟨⟨r2a, r2b⟩, r2⟩
        refine pq_k (pc' := 151) (v := (0, (-1))) rfl rfl rfl (fun _ => rfl) ?_
        refine pq_ixor (pc' := 152) rfl rfl ?_
        refine pq_i2l (pc' := 153) rfl rfl (xorI_r _ _) ?_
        refine pq_k (pc' := 156) (v := (1, 4294967295)) rfl rfl rfl (fun _ => rfl) ?_
        refine pq_land (pc' := 157) rfl rfl ?_
        refine pq_ladd (pc' := 158) rfl rfl ?_
        refine pq_s2 (pc' := 160) rfl rfl rfl rfl rfl ?_
        refine pq_l (pc' := 161) rfl rfl rfl rfl rfl ?_
        refine pq_gr (pc' := 164) (c := (l0 + 1)) (v := 0) rfl rfl rfl rfl rfl rfl hv ?_
        refine pq_l (pc' := 166) rfl rfl rfl rfl rfl ?_
        refine pq_l (pc' := 168) rfl rfl rfl rfl rfl ?_
        refine pq_l2i (pc' := 169) rfl rfl ?_
        refine pq_is (pc' := 170) rfl rfl (fun e => l0n.1 (Nat.succ.inj e)) (fun e => l0n.2 (Nat.succ.inj e)) hv (fun s3a s3b s3 s3e s3v => ?_)
        have hW := hW ⟨s3a, s3b⟩ s3 s3e
        refine pq_l (pc' := 172) rfl rfl rfl rfl rfl ?_
        refine pq_k (pc' := 174) (v := (0, 32)) rfl rfl rfl (fun _ => rfl) ?_
        refine pq_lushr (pc' := 175) rfl rfl ?_
        refine pq_s2 (pc' := 177) rfl rfl rfl rfl rfl ?_
        refine pq_inc (pc' := 180) rfl rfl rfl rfl ?_
        refine pq_gotoT (pc' := 134) rfl rfl (fun m4 m4l => ?_)
        refine pq_w [(0, (2, ((l0 : Nat) : Int))), (4, (0, l4)), (5, (1, (ushJ (w64 (l5 + (andJ (xorI (cga s (l0 + 1) l7) (-1)) 4294967295))) 32))), (7, (0, (w32 (l7 + 1))))] ⟨rfl, rfl, rfl, rfl, trivial⟩ ?_
        exact ih134 m4 (by omega) (by omega) (ushJ (w64 (l5 + (andJ (xorI (cga s (l0 + 1) l7) (-1)) 4294967295))) 32) (ushJ_r _ _) (w32 (l7 + 1)) (w32_r _) s3 s3v hW
  have J26 : ∀ (l0 : Nat) (l0n : nb l0) (l1 : Nat) (l4 : Int) (l4r : iR l4) (I26 : Int × Int × im_S → Prop) (hB26 : ∀ a : Int × Int × im_S, I26 a → C_shrink1_26 I26 l0 l1 l4 a.1 a.2.1 a.2.2 Q), ∀ N26 : Nat, N26 ≤ N → ∀ (l2 : Int) (l2r : lR l2) (l5 : Int) (l5r : iR l5) (s : im_S) (hv : jI s), I26 (l2, l5, s) → pq L ys d N26 rm_p_X1_shrink (26, [(0, (2, ((l0 : Nat) : Int))), (1, (2, ((l1 : Nat) : Int))), (2, (1, l2)), (4, (0, l4)), (5, (0, l5))], [], s) (fun r : im_Re => r.1 = none ∧ (jI r.2 ∧ Q r.2)) := by
    intro l0 l0n l1 l4 l4r I26 hB26 N26
    induction N26 using Nat.strongRecOn with
    | _ N26 ih26 =>
      intro hN26 l2 l2r l5 l5r s hv hI
      have hW : C_shrink1_26 I26 l0 l1 l4 l2 l5 s Q := hB26 (l2, l5, s) hI
      unfold C_shrink1_26 at hW
      refine pq_l (pc' := 28) rfl rfl rfl rfl rfl ?_
      refine pq_l (pc' := 30) rfl rfl rfl rfl rfl ?_
      refine pq_c_ge (pt := 107) (pc' := 33) rfl rfl rfl (fun c5 => ?_) (fun c5 => ?_)
      · have hW := hW.1 c5
        refine pq_l (pc' := 108) rfl rfl rfl rfl rfl ?_
        refine pq_l (pc' := 110) rfl rfl rfl rfl rfl ?_
        refine pq_pB (pc' := 113) rfl rfl rfl l0n hv (fun s6 s6e s6v => ?_)
        have hW := hW s6 s6e
        refine pq_l (pc' := 114) rfl rfl rfl rfl rfl ?_
        refine pq_k (pc' := 115) (v := (1, 0)) rfl rfl rfl (fun _ => rfl) ?_
        refine pq_lcmp (pc' := 116) rfl rfl l2r (⟨by decide, by decide⟩ : lR 0) (fun z7 z7c => ?_)
        refine pq_z_eq (pt := 183) (pc' := 119) rfl rfl rfl (fun c8 => ?_) (fun c8 => ?_)
        · have c8 : l2 = 0 := by omega
          have hW := hW.1 c8
          refine pq_w [] trivial ?_
          exact J183 N26 (by omega) s6 s6v hW
        · have c8 : ¬ (l2 = 0) := by omega
          have hW := hW.2 c8
          refine pq_l (pc' := 120) rfl rfl rfl rfl rfl ?_
          refine pq_l (pc' := 121) rfl rfl rfl rfl rfl ?_
          refine pq_gi (pc' := 124) rfl rfl rfl rfl rfl (fun r9 => ?_)
          refine pq_ineg (pc' := 125) rfl rfl ?_
          refine pq_pB (pc' := 128) rfl rfl rfl l0n s6v (fun s10 s10e s10v => ?_)
          have hW := hW s10 s10e
          refine pq_k (pc' := 129) (v := (1, 1)) rfl rfl rfl (fun _ => rfl) ?_
          refine pq_s2 (pc' := 131) rfl rfl rfl rfl rfl ?_
          refine pq_k (pc' := 132) (v := (0, 0)) rfl rfl rfl (fun _ => rfl) ?_
          refine pq_s (pc' := 134) rfl rfl rfl rfl rfl ?_
          refine pq_w [(0, (2, ((l0 : Nat) : Int))), (4, (0, l4)), (5, (1, 1)), (7, (0, 0))] ⟨rfl, rfl, rfl, rfl, trivial⟩ ?_
          obtain ⟨I9, hI9, hB9⟩ := hW
          exact J134 l0 l0n l4 l4r I9 hB9 N26 (by omega) 1 (⟨by decide, by decide⟩ : lR 1) 0 (⟨by decide, by decide⟩ : iR 0) s10 s10v hI9
      · have hW := hW.2 c5
        refine pq_l (pc' := 34) rfl rfl rfl rfl rfl ?_
        refine pq_l (pc' := 36) rfl rfl rfl rfl rfl ?_
        refine pq_l (pc' := 37) rfl rfl rfl rfl rfl ?_
        refine pq_gi (pc' := 40) rfl rfl rfl rfl rfl (fun r11 => ?_)
        have J213 : ∀ v212 : Int, lR v212 → ((∀ v415 : Int, v415 = (if (cgf s l1 1) ≤ l5 then 0 else (andJ (cga s (l1 + 1) l5) 4294967295)) → ((0 ≤ l5 ∧ l5 < gln (l0 + 1)) → ∀ s417, s417 = cpa s (l0 + 1) l5 (w32 (w64 (l2 + (w64 (v212 - v415))))) → (I26 ((shrJ (w64 (l2 + (w64 (v212 - v415)))) 32), (w32 (l5 + 1)), s417))))) → pq L ys d N26 rm_p_X1_shrink (59, [(0, (2, ((l0 : Nat) : Int))), (1, (2, ((l1 : Nat) : Int))), (4, (0, l4)), (5, (0, l5))], [(1, v212), (1, l2)], s) (fun r : im_Re => r.1 = none ∧ (jI r.2 ∧ Q r.2)) := by
          intro v212 v212r hW
          refine pq_l (pc' := 61) rfl rfl rfl rfl rfl ?_
          refine pq_l (pc' := 62) rfl rfl rfl rfl rfl ?_
          refine pq_gi (pc' := 65) rfl rfl rfl rfl rfl (fun r214 => ?_)
          have J416 : ∀ v415 : Int, lR v415 → (((0 ≤ l5 ∧ l5 < gln (l0 + 1)) → ∀ s417, s417 = cpa s (l0 + 1) l5 (w32 (w64 (l2 + (w64 (v212 - v415))))) → (I26 ((shrJ (w64 (l2 + (w64 (v212 - v415)))) 32), (w32 (l5 + 1)), s417)))) → pq L ys d N26 rm_p_X1_shrink (84, [(0, (2, ((l0 : Nat) : Int))), (1, (2, ((l1 : Nat) : Int))), (4, (0, l4)), (5, (0, l5))], [(1, v415), (1, v212), (1, l2)], s) (fun r : im_Re => r.1 = none ∧ (jI r.2 ∧ Q r.2)) := by
            intro v415 v415r hW
            refine pq_lsub (pc' := 85) rfl rfl ?_
            refine pq_ladd (pc' := 86) rfl rfl ?_
            refine pq_s2 (pc' := 87) rfl rfl rfl rfl rfl ?_
            refine pq_l (pc' := 88) rfl rfl rfl rfl rfl ?_
            refine pq_gr (pc' := 91) (c := (l0 + 1)) (v := 0) rfl rfl rfl rfl rfl rfl hv ?_
            refine pq_l (pc' := 93) rfl rfl rfl rfl rfl ?_
            refine pq_l (pc' := 94) rfl rfl rfl rfl rfl ?_
            refine pq_l2i (pc' := 95) rfl rfl ?_
            refine pq_is (pc' := 96) rfl rfl (fun e => l0n.1 (Nat.succ.inj e)) (fun e => l0n.2 (Nat.succ.inj e)) hv (fun s417a s417b s417 s417e s417v => ?_)
            have hW := hW ⟨s417a, s417b⟩ s417 s417e
            refine pq_l (pc' := 97) rfl rfl rfl rfl rfl ?_
            refine pq_k (pc' := 99) (v := (0, 32)) rfl rfl rfl (fun _ => rfl) ?_
            refine pq_lshr (pc' := 100) rfl rfl ?_
            refine pq_s2 (pc' := 101) rfl rfl rfl rfl rfl ?_
            refine pq_inc (pc' := 104) rfl rfl rfl rfl ?_
            refine pq_gotoT (pc' := 26) rfl rfl (fun m418 m418l => ?_)
            refine pq_w [(0, (2, ((l0 : Nat) : Int))), (1, (2, ((l1 : Nat) : Int))), (2, (1, (shrJ (w64 (l2 + (w64 (v212 - v415)))) 32))), (4, (0, l4)), (5, (0, (w32 (l5 + 1))))] ⟨rfl, rfl, rfl, rfl, rfl, trivial⟩ ?_
            exact ih26 m418 (by omega) (by omega) (shrJ (w64 (l2 + (w64 (v212 - v415)))) 32) (shrJ_r _ _) (w32 (l5 + 1)) (w32_r _) s417 s417v hW
          refine pq_c_ge (pt := 83) (pc' := 68) rfl rfl rfl (fun c215 => ?_) (fun c215 => ?_)
          · refine pq_k (pc' := 84) (v := (1, 0)) rfl rfl rfl (fun _ => rfl) ?_
            refine pq_w [(0, (2, ((l0 : Nat) : Int))), (1, (2, ((l1 : Nat) : Int))), (4, (0, l4)), (5, (0, l5))] ⟨rfl, rfl, rfl, rfl, trivial⟩ ?_
            exact J416 0 (⟨by decide, by decide⟩ : lR 0) (hW _ (by rw [if_pos c215]))
          · refine pq_l (pc' := 69) rfl rfl rfl rfl rfl ?_
            refine pq_gr (pc' := 72) (c := (l1 + 1)) (v := 0) rfl rfl rfl rfl rfl rfl hv ?_
            refine pq_l (pc' := 74) rfl rfl rfl rfl rfl ?_
            refine pq_ia (pc' := 75) rfl rfl (fun r216a r216b r216 => ?_)
            refine pq_i2l (pc' := 76) rfl rfl r216 ?_
            refine pq_k (pc' := 79) (v := (1, 4294967295)) rfl rfl rfl (fun _ => rfl) ?_
            refine pq_land (pc' := 80) rfl rfl ?_
            refine pq_goto (pc' := 84) rfl rfl ?_
            refine pq_w [(0, (2, ((l0 : Nat) : Int))), (1, (2, ((l1 : Nat) : Int))), (4, (0, l4)), (5, (0, l5))] ⟨rfl, rfl, rfl, rfl, trivial⟩ ?_
            exact J416 (andJ (cga s (l1 + 1) l5) 4294967295) (andJ_r _ _) (hW _ (by rw [if_neg (fun z => c215 z)]))
        refine pq_c_ge (pt := 58) (pc' := 43) rfl rfl rfl (fun c12 => ?_) (fun c12 => ?_)
        · refine pq_k (pc' := 59) (v := (1, 0)) rfl rfl rfl (fun _ => rfl) ?_
          refine pq_w [(0, (2, ((l0 : Nat) : Int))), (1, (2, ((l1 : Nat) : Int))), (4, (0, l4)), (5, (0, l5))] ⟨rfl, rfl, rfl, rfl, trivial⟩ ?_
          exact J213 0 (⟨by decide, by decide⟩ : lR 0) (hW _ (by rw [if_pos c12]))
        · refine pq_l (pc' := 44) rfl rfl rfl rfl rfl ?_
          refine pq_gr (pc' := 47) (c := (l0 + 1)) (v := 0) rfl rfl rfl rfl rfl rfl hv ?_
          refine pq_l (pc' := 49) rfl rfl rfl rfl rfl ?_
          refine pq_ia (pc' := 50) rfl rfl (fun r13a r13b r13 => ?_)
          refine pq_i2l (pc' := 51) rfl rfl r13 ?_
          refine pq_k (pc' := 54) (v := (1, 4294967295)) rfl rfl rfl (fun _ => rfl) ?_
          refine pq_land (pc' := 55) rfl rfl ?_
          refine pq_goto (pc' := 59) rfl rfl ?_
          refine pq_w [(0, (2, ((l0 : Nat) : Int))), (1, (2, ((l1 : Nat) : Int))), (4, (0, l4)), (5, (0, l5))] ⟨rfl, rfl, rfl, rfl, trivial⟩ ?_
          exact J213 (andJ (cga s (l0 + 1) l5) 4294967295) (andJ_r _ _) (hW _ (by rw [if_neg (fun z => c12 z)]))
  unfold C_shrink1 at hW
  refine pq_k (pc' := 1) (v := (1, 0)) rfl rfl rfl (fun _ => rfl) ?_
  refine pq_s2 (pc' := 2) rfl rfl rfl rfl rfl ?_
  refine pq_l (pc' := 3) rfl rfl rfl rfl rfl ?_
  refine pq_gi (pc' := 6) rfl rfl rfl rfl rfl (fun r419 => ?_)
  refine pq_l (pc' := 7) rfl rfl rfl rfl rfl ?_
  refine pq_gi (pc' := 10) rfl rfl rfl rfl rfl (fun r420 => ?_)
  refine pq_cSI (pc' := 13) rfl rfl rfl rfl rfl (c_J9_max_7cf53 L ys d s hv (cgf s l0 1) r419 (cgf s l1 1) r420 _ hW) (fun z422 s421 hr => ?_)
  obtain ⟨s421v, z422r, hW⟩ := hr
  refine pq_l (pc' := 14) rfl rfl rfl rfl rfl ?_
  refine pq_gr (pc' := 17) (c := (l0 + 1)) (v := 0) rfl rfl rfl rfl rfl rfl s421v ?_
  refine pq_alen (pc' := 18) rfl rfl ?_
  refine pq_cSI (pc' := 21) rfl rfl rfl rfl rfl (c_J9_min_7cf53 L ys d s421 s421v z422 z422r (gln (l0 + 1)) (gln_r _) _ hW) (fun z424 s423 hr => ?_)
  obtain ⟨s423v, z424r, hW⟩ := hr
  refine pq_s (pc' := 23) rfl rfl rfl rfl rfl ?_
  refine pq_k (pc' := 24) (v := (0, 0)) rfl rfl rfl (fun _ => rfl) ?_
  refine pq_s (pc' := 26) rfl rfl rfl rfl rfl ?_
  refine pq_w [(0, (2, ((l0 : Nat) : Int))), (1, (2, ((l1 : Nat) : Int))), (2, (1, 0)), (4, (0, z424)), (5, (0, 0))] ⟨rfl, rfl, rfl, rfl, rfl, trivial⟩ ?_
  obtain ⟨I9, hI9, hB9⟩ := hW
  exact J26 l0 l0n l1 z424 z424r I9 hB9 N (by omega) 0 (⟨by decide, by decide⟩ : lR 0) 0 (⟨by decide, by decide⟩ : iR 0) s423 s423v hI9
def C_add1_57 (s : im_S) (Q : im_S → Prop) : Prop := (Q s)
def C_add1 (l0 : Nat) (l1 : Nat) (l2 : Int) (s : im_S) (Q : im_S → Prop) : Prop := ((¬ ((w32 ((cgf s l1 2) * l2)) = 0) → ((¬ ((cgf s l0 2) = 0) → ((¬ ((cgf s l0 2) = (w32 ((cgf s l1 2) * l2))) → (C_shrink1 l0 l1 s (fun s7 => (C_trim1 l0 s7 (fun s9 => (C_add1_57 s9 Q)))))) ∧ ((cgf s l0 2) = (w32 ((cgf s l1 2) * l2)) → (C_grow1 l0 l1 s (fun s11 => (C_add1_57 s11 Q)))))) ∧ ((cgf s l0 2) = 0 → (C_copy1 l0 l1 s (fun s13 => (∀ s15, s15 = cpf s13 l0 2 (w32 ((cgf s l1 2) * l2)) → (C_add1_57 s15 Q))))))) ∧ ((w32 ((cgf s l1 2) * l2)) = 0 → (Q s)))
set_option maxRecDepth 16384 in
theorem c_add1 (L : Nat) (ys : Nat → Int32) (d : Nat) (s : im_S) (hv : jI s) (l0 : Nat) (l0n : nb l0) (l1 : Nat) (l2 : Int) (l2r : iR l2) (Q : im_S → Prop) (hW : C_add1 l0 l1 l2 s Q) : pcV L ys d 108 [(2, ((l0 : Nat) : Int)), (2, ((l1 : Nat) : Int)), (0, l2)] s (fun s9 => jI s9 ∧ Q s9) := by
  intro res hres
  refine pq_start (M := rm_p_X1_add) (Q := (fun r : im_Re => r.1 = none ∧ (jI r.2 ∧ Q r.2))) om_X1_add (fun d N => ?_) res hres
  refine pq_w [(0, (2, ((l0 : Nat) : Int))), (1, (2, ((l1 : Nat) : Int))), (2, (0, l2))] ⟨rfl, rfl, rfl, trivial⟩ ?_
  have J57 : ∀ N57 : Nat, N57 ≤ N → ∀ (s : im_S) (hv : jI s), C_add1_57 s Q → pq L ys d N57 rm_p_X1_add (57, [], [], s) (fun r : im_Re => r.1 = none ∧ (jI r.2 ∧ Q r.2)) := by
    intro N57 hN57 s hv hW
    unfold C_add1_57 at hW
    exact pq_vret rfl ⟨rfl, hv, hW⟩
  unfold C_add1 at hW
  refine pq_l (pc' := 1) rfl rfl rfl rfl rfl ?_
  refine pq_gi (pc' := 4) rfl rfl rfl rfl rfl (fun r1 => ?_)
  refine pq_l (pc' := 5) rfl rfl rfl rfl rfl ?_
  refine pq_mul (pc' := 6) rfl rfl ?_
  refine pq_s (pc' := 7) rfl rfl rfl rfl rfl ?_
  refine pq_l (pc' := 8) rfl rfl rfl rfl rfl ?_
  refine pq_z_ne (pt := 12) (pc' := 11) rfl rfl rfl (fun c2 => ?_) (fun c2 => ?_)
  · have hW := hW.1 c2
    refine pq_l (pc' := 13) rfl rfl rfl rfl rfl ?_
    refine pq_gi (pc' := 16) rfl rfl rfl rfl rfl (fun r3 => ?_)
    refine pq_z_ne (pt := 32) (pc' := 19) rfl rfl rfl (fun c4 => ?_) (fun c4 => ?_)
    · have hW := hW.1 c4
      refine pq_l (pc' := 33) rfl rfl rfl rfl rfl ?_
      refine pq_gi (pc' := 36) rfl rfl rfl rfl rfl (fun r5 => ?_)
      refine pq_l (pc' := 37) rfl rfl rfl rfl rfl ?_
      refine pq_c_ne (pt := 48) (pc' := 40) rfl rfl rfl (fun c6 => ?_) (fun c6 => ?_)
      · have hW := hW.1 c6
        refine pq_l (pc' := 49) rfl rfl rfl rfl rfl ?_
        refine pq_l (pc' := 50) rfl rfl rfl rfl rfl ?_
        refine pq_cVV (pc' := 53) rfl rfl rfl rfl rfl (c_shrink1 L ys d s hv l0 l0n l1 _ hW) (fun s7 hr => ?_)
        obtain ⟨s7v, hW⟩ := hr
        refine pq_l (pc' := 54) rfl rfl rfl rfl rfl ?_
        refine pq_cVV (pc' := 57) rfl rfl rfl rfl rfl (c_trim1 L ys d s7 s7v l0 l0n _ hW) (fun s9 hr => ?_)
        obtain ⟨s9v, hW⟩ := hr
        refine pq_w [] trivial ?_
        exact J57 N (by omega) s9 s9v hW
      · have hW := hW.2 c6
        refine pq_l (pc' := 41) rfl rfl rfl rfl rfl ?_
        refine pq_l (pc' := 42) rfl rfl rfl rfl rfl ?_
        refine pq_cVV (pc' := 45) rfl rfl rfl rfl rfl (c_grow1 L ys d s hv l0 l0n l1 _ hW) (fun s11 hr => ?_)
        obtain ⟨s11v, hW⟩ := hr
        refine pq_goto (pc' := 57) rfl rfl ?_
        refine pq_w [] trivial ?_
        exact J57 N (by omega) s11 s11v hW
    · have hW := hW.2 c4
      refine pq_l (pc' := 20) rfl rfl rfl rfl rfl ?_
      refine pq_l (pc' := 21) rfl rfl rfl rfl rfl ?_
      refine pq_cVV (pc' := 24) rfl rfl rfl rfl rfl (c_copy1 L ys d s hv l0 l0n l1 _ hW) (fun s13 hr => ?_)
      obtain ⟨s13v, hW⟩ := hr
      refine pq_l (pc' := 25) rfl rfl rfl rfl rfl ?_
      refine pq_l (pc' := 26) rfl rfl rfl rfl rfl ?_
      refine pq_pB (pc' := 29) rfl rfl rfl l0n s13v (fun s15 s15e s15v => ?_)
      have hW := hW s15 s15e
      refine pq_goto (pc' := 57) rfl rfl ?_
      refine pq_w [] trivial ?_
      exact J57 N (by omega) s15 s15v hW
  · have hW := hW.2 c2
    exact pq_vret rfl ⟨rfl, hv, hW⟩
def C_setProduct1_216 (l0 : Nat) (s : im_S) (Q : im_S → Prop) : Prop := (C_trim1 l0 s (fun s1 => (Q s1)))
def C_setProduct1_210 (K70 : Int × im_S → Prop) (l0 : Nat) (l1 : Nat) (l2 : Nat) (l3 : Int) (s : im_S) (Q : im_S → Prop) : Prop := (K70 ((w32 (l3 + 1)), s))
def C_setProduct1_120 (K70 : Int × im_S → Prop) (K120 : Int × Int × im_S → Prop) (l0 : Nat) (l1 : Nat) (l2 : Nat) (l3 : Int) (l4 : Int) (l8 : Int) (l6 : Int) (l9 : Int) (s : im_S) (Q : im_S → Prop) : Prop := ((l8 ≤ l9 → (((cgf s l0 1) ≤ (w32 (l3 + l8)) → (C_setProduct1_210 K70 l0 l1 l2 l3 s Q)) ∧ (¬ ((cgf s l0 1) ≤ (w32 (l3 + l8))) → ((0 ≤ (w32 (l3 + l8)) ∧ (w32 (l3 + l8)) < gln (l0 + 1)) → ∀ s7, s7 = cpa s (l0 + 1) (w32 (l3 + l8)) (w32 l6) → (C_setProduct1_210 K70 l0 l1 l2 l3 s7 Q))))) ∧ (¬ (l8 ≤ l9) → (caI s (l2 + 1) l9 → (caI s (l0 + 1) (w32 (l3 + l9)) → ((0 ≤ (w32 (l3 + l9)) ∧ (w32 (l3 + l9)) < gln (l0 + 1)) → ∀ s10, s10 = cpa s (l0 + 1) (w32 (l3 + l9)) (w32 (w64 (l6 + (w64 ((w64 (l4 * (andJ (cga s (l2 + 1) l9) 4294967295))) + (andJ (cga s (l0 + 1) (w32 (l3 + l9))) 4294967295)))))) → (K120 ((ushJ (w64 (l6 + (w64 ((w64 (l4 * (andJ (cga s (l2 + 1) l9) 4294967295))) + (andJ (cga s (l0 + 1) (w32 (l3 + l9))) 4294967295))))) 32), (w32 (l9 + 1)), s10)))))))
def C_setProduct1_70 (K70 : Int × im_S → Prop) (l0 : Nat) (l1 : Nat) (l2 : Nat) (l3 : Int) (s : im_S) (Q : im_S → Prop) : Prop := (((cgf s l1 1) ≤ l3 → (C_setProduct1_216 l0 s Q)) ∧ (¬ ((cgf s l1 1) ≤ l3) → (((cgf s l0 1) ≤ l3 → (C_setProduct1_216 l0 s Q)) ∧ (¬ ((cgf s l0 1) ≤ l3) → (caI s (l1 + 1) l3 → (C_J9_min_7cf53 (cgf s l2 1) (w32 ((cgf s l0 1) - l3)) s (fun z20 s19 => (ploop (fun (K : Int × Int × im_S → Prop) (a : Int × Int × im_S) => C_setProduct1_120 K70 K l0 l1 l2 l3 (andJ (cga s (l1 + 1) l3) 4294967295) z20 a.1 a.2.1 a.2.2 Q) (0, 0, s19)))))))))
def C_setProduct1_47 (K47 : Int × im_S → Prop) (l0 : Nat) (l1 : Nat) (l2 : Nat) (l3 : Int) (s : im_S) (Q : im_S → Prop) : Prop := (((cgf s l0 1) ≤ l3 → (ploop (fun (K : Int × im_S → Prop) (a : Int × im_S) => C_setProduct1_70 K l0 l1 l2 a.1 a.2 Q) (0, s))) ∧ (¬ ((cgf s l0 1) ≤ l3) → ((0 ≤ l3 ∧ l3 < gln (l0 + 1)) → ∀ s23, s23 = cpa s (l0 + 1) l3 0 → (K47 ((w32 (l3 + 1)), s23)))))
def C_setProduct1_42 (l0 : Nat) (l1 : Nat) (l2 : Nat) (k1 : Int) (s : im_S) (Q : im_S → Prop) : Prop := (∀ s25, s25 = cpf s l0 1 k1 → (ploop (fun (K : Int × im_S → Prop) (a : Int × im_S) => C_setProduct1_47 K l0 l1 l2 a.1 a.2 Q) (0, s25)))
def C_setProduct1 (l0 : Nat) (l1 : Nat) (l2 : Nat) (s : im_S) (Q : im_S → Prop) : Prop := (∀ s28, s28 = cpf s l0 2 (w32 ((cgf s l1 2) * (cgf s l2 2))) → ((¬ ((cgf s28 l0 2) = 0) → (C_J9_min_7cf53 (w32 ((cgf s28 l1 1) + (cgf s28 l2 1))) (gln (l0 + 1)) s28 (fun z34 s33 => (C_setProduct1_42 l0 l1 l2 z34 s33 Q)))) ∧ ((cgf s28 l0 2) = 0 → (C_setProduct1_42 l0 l1 l2 0 s28 Q))))
set_option maxRecDepth 16384 in
theorem c_setProduct1 (L : Nat) (ys : Nat → Int32) (d : Nat) (s : im_S) (hv : jI s) (l0 : Nat) (l0n : nb l0) (l1 : Nat) (l2 : Nat) (Q : im_S → Prop) (hW : C_setProduct1 l0 l1 l2 s Q) : pcV L ys d 116 [(2, ((l0 : Nat) : Int)), (2, ((l1 : Nat) : Int)), (2, ((l2 : Nat) : Int))] s (fun s9 => jI s9 ∧ Q s9) := by
  intro res hres
  refine pq_start (M := rm_p_X1_setProduct) (Q := (fun r : im_Re => r.1 = none ∧ (jI r.2 ∧ Q r.2))) om_X1_setProduct (fun d N => ?_) res hres
  refine pq_w [(0, (2, ((l0 : Nat) : Int))), (1, (2, ((l1 : Nat) : Int))), (2, (2, ((l2 : Nat) : Int)))] ⟨rfl, rfl, rfl, trivial⟩ ?_
  have J216 : ∀ N216 : Nat, N216 ≤ N → ∀ (l0 : Nat) (l0n : nb l0) (s : im_S) (hv : jI s), C_setProduct1_216 l0 s Q → pq L ys d N216 rm_p_X1_setProduct (216, [(0, (2, ((l0 : Nat) : Int)))], [], s) (fun r : im_Re => r.1 = none ∧ (jI r.2 ∧ Q r.2)) := by
    intro N216 hN216 l0 l0n s hv hW
    unfold C_setProduct1_216 at hW
    refine pq_l (pc' := 217) rfl rfl rfl rfl rfl ?_
    refine pq_cVV (pc' := 220) rfl rfl rfl rfl rfl (c_trim1 L ys d s hv l0 l0n _ hW) (fun s1 hr => ?_)
    obtain ⟨s1v, hW⟩ := hr
    exact pq_vret rfl ⟨rfl, s1v, hW⟩
  have J70 : ∀ (l0 : Nat) (l0n : nb l0) (l1 : Nat) (l2 : Nat) (I70 : Int × im_S → Prop) (hB70 : ∀ a : Int × im_S, I70 a → C_setProduct1_70 I70 l0 l1 l2 a.1 a.2 Q), ∀ N70 : Nat, N70 ≤ N → ∀ (l3 : Int) (l3r : iR l3) (s : im_S) (hv : jI s), I70 (l3, s) → pq L ys d N70 rm_p_X1_setProduct (70, [(0, (2, ((l0 : Nat) : Int))), (1, (2, ((l1 : Nat) : Int))), (2, (2, ((l2 : Nat) : Int))), (3, (0, l3))], [], s) (fun r : im_Re => r.1 = none ∧ (jI r.2 ∧ Q r.2)) := by
    intro l0 l0n l1 l2 I70 hB70 N70
    induction N70 using Nat.strongRecOn with
    | _ N70 ih70 =>
      intro hN70 l3 l3r s hv hI
      have hW : C_setProduct1_70 I70 l0 l1 l2 l3 s Q := hB70 (l3, s) hI
      have J210 : ∀ N210 : Nat, N210 ≤ N70 → ∀ (l3 : Int) (l3r : iR l3) (s : im_S) (hv : jI s), C_setProduct1_210 I70 l0 l1 l2 l3 s Q → pq L ys d N210 rm_p_X1_setProduct (210, [(0, (2, ((l0 : Nat) : Int))), (1, (2, ((l1 : Nat) : Int))), (2, (2, ((l2 : Nat) : Int))), (3, (0, l3))], [], s) (fun r : im_Re => r.1 = none ∧ (jI r.2 ∧ Q r.2)) := by
        intro N210 hN210 l3 l3r s hv hW
        unfold C_setProduct1_210 at hW
        refine pq_inc (pc' := 213) rfl rfl rfl rfl ?_
        refine pq_gotoT (pc' := 70) rfl rfl (fun m3 m3l => ?_)
        refine pq_w [(0, (2, ((l0 : Nat) : Int))), (1, (2, ((l1 : Nat) : Int))), (2, (2, ((l2 : Nat) : Int))), (3, (0, (w32 (l3 + 1))))] ⟨rfl, rfl, rfl, rfl, trivial⟩ ?_
        exact ih70 m3 (by omega) (by omega) (w32 (l3 + 1)) (w32_r _) s hv hW
      have J120 : ∀ (l3 : Int) (l3r : iR l3) (l4 : Int) (l4r : lR l4) (l8 : Int) (l8r : iR l8) (I120 : Int × Int × im_S → Prop) (hB120 : ∀ a : Int × Int × im_S, I120 a → C_setProduct1_120 I70 I120 l0 l1 l2 l3 l4 l8 a.1 a.2.1 a.2.2 Q), ∀ N120 : Nat, N120 ≤ N70 → ∀ (l6 : Int) (l6r : lR l6) (l9 : Int) (l9r : iR l9) (s : im_S) (hv : jI s), I120 (l6, l9, s) → pq L ys d N120 rm_p_X1_setProduct (120, [(0, (2, ((l0 : Nat) : Int))), (1, (2, ((l1 : Nat) : Int))), (2, (2, ((l2 : Nat) : Int))), (3, (0, l3)), (4, (1, l4)), (6, (1, l6)), (8, (0, l8)), (9, (0, l9))], [], s) (fun r : im_Re => r.1 = none ∧ (jI r.2 ∧ Q r.2)) := by
        intro l3 l3r l4 l4r l8 l8r I120 hB120 N120
        induction N120 using Nat.strongRecOn with
        | _ N120 ih120 =>
          intro hN120 l6 l6r l9 l9r s hv hI
          have hW : C_setProduct1_120 I70 I120 l0 l1 l2 l3 l4 l8 l6 l9 s Q := hB120 (l6, l9, s) hI
          unfold C_setProduct1_120 at hW
          refine pq_l (pc' := 122) rfl rfl rfl rfl rfl ?_
          refine pq_l (pc' := 124) rfl rfl rfl rfl rfl ?_
          refine pq_c_ge (pt := 187) (pc' := 127) rfl rfl rfl (fun c4 => ?_) (fun c4 => ?_)
          · have hW := hW.1 c4
            refine pq_l (pc' := 188) rfl rfl rfl rfl rfl ?_
            refine pq_l (pc' := 190) rfl rfl rfl rfl rfl ?_
            refine pq_add (pc' := 191) rfl rfl ?_
            refine pq_l (pc' := 192) rfl rfl rfl rfl rfl ?_
            refine pq_gi (pc' := 195) rfl rfl rfl rfl rfl (fun r5 => ?_)
            refine pq_c_ge (pt := 210) (pc' := 198) rfl rfl rfl (fun c6 => ?_) (fun c6 => ?_)
            · have hW := hW.1 c6
              refine pq_w [(0, (2, ((l0 : Nat) : Int))), (1, (2, ((l1 : Nat) : Int))), (2, (2, ((l2 : Nat) : Int))), (3, (0, l3))] ⟨rfl, rfl, rfl, rfl, trivial⟩ ?_
              exact J210 N120 (by omega) l3 l3r s hv hW
            · have hW := hW.2 c6
              refine pq_l (pc' := 199) rfl rfl rfl rfl rfl ?_
              refine pq_gr (pc' := 202) (c := (l0 + 1)) (v := 0) rfl rfl rfl rfl rfl rfl hv ?_
              refine pq_l (pc' := 203) rfl rfl rfl rfl rfl ?_
              refine pq_l (pc' := 205) rfl rfl rfl rfl rfl ?_
              refine pq_add (pc' := 206) rfl rfl ?_
              refine pq_l (pc' := 208) rfl rfl rfl rfl rfl ?_
              refine pq_l2i (pc' := 209) rfl rfl ?_
              refine pq_is (pc' := 210) rfl rfl (fun e => l0n.1 (Nat.succ.inj e)) (fun e => l0n.2 (Nat.succ.inj e)) hv (fun s7a s7b s7 s7e s7v => ?_)
              have hW := hW ⟨s7a, s7b⟩ s7 s7e
              refine pq_w [(0, (2, ((l0 : Nat) : Int))), (1, (2, ((l1 : Nat) : Int))), (2, (2, ((l2 : Nat) : Int))), (3, (0, l3))] ⟨rfl, rfl, rfl, rfl, trivial⟩ ?_
              exact J210 N120 (by omega) l3 l3r s7 s7v hW
          · have hW := hW.2 c4
            refine pq_l (pc' := 129) rfl rfl rfl rfl rfl ?_
            refine pq_l (pc' := 131) rfl rfl rfl rfl rfl ?_
            refine pq_l (pc' := 132) rfl rfl rfl rfl rfl ?_
            refine pq_gr (pc' := 135) (c := (l2 + 1)) (v := 0) rfl rfl rfl rfl rfl rfl hv ?_
            refine pq_l (pc' := 137) rfl rfl rfl rfl rfl ?_
            refine pq_ia (pc' := 138) rfl rfl (fun r8a r8b r8 => ?_)
            have hW := hW ⟨⟨r8a, r8b⟩, r8⟩
            refine pq_i2l (pc' := 139) rfl rfl r8 ?_
            refine pq_k (pc' := 142) (v := (1, 4294967295)) rfl rfl rfl (fun _ => rfl) ?_
            refine pq_land (pc' := 143) rfl rfl ?_
            refine pq_lmul (pc' := 144) rfl rfl ?_
            refine pq_l (pc' := 145) rfl rfl rfl rfl rfl ?_
            refine pq_gr (pc' := 148) (c := (l0 + 1)) (v := 0) rfl rfl rfl rfl rfl rfl hv ?_
            refine pq_l (pc' := 149) rfl rfl rfl rfl rfl ?_
            refine pq_l (pc' := 151) rfl rfl rfl rfl rfl ?_
            refine pq_add (pc' := 152) rfl rfl ?_
            refine pq_ia (pc' := 153) rfl rfl (fun r9a r9b r9 => ?_)
            have hW := hW ⟨⟨r9a, r9b⟩, r9⟩
            refine pq_i2l (pc' := 154) rfl rfl r9 ?_
            refine pq_k (pc' := 157) (v := (1, 4294967295)) rfl rfl rfl (fun _ => rfl) ?_
            refine pq_land (pc' := 158) rfl rfl ?_
            refine pq_ladd (pc' := 159) rfl rfl ?_
            refine pq_ladd (pc' := 160) rfl rfl ?_
            refine pq_s2 (pc' := 162) rfl rfl rfl rfl rfl ?_
            refine pq_l (pc' := 163) rfl rfl rfl rfl rfl ?_
            refine pq_gr (pc' := 166) (c := (l0 + 1)) (v := 0) rfl rfl rfl rfl rfl rfl hv ?_
            refine pq_l (pc' := 167) rfl rfl rfl rfl rfl ?_
            refine pq_l (pc' := 169) rfl rfl rfl rfl rfl ?_
            refine pq_add (pc' := 170) rfl rfl ?_
            refine pq_l (pc' := 172) rfl rfl rfl rfl rfl ?_
            refine pq_l2i (pc' := 173) rfl rfl ?_
            refine pq_is (pc' := 174) rfl rfl (fun e => l0n.1 (Nat.succ.inj e)) (fun e => l0n.2 (Nat.succ.inj e)) hv (fun s10a s10b s10 s10e s10v => ?_)
            have hW := hW ⟨s10a, s10b⟩ s10 s10e
            refine pq_l (pc' := 176) rfl rfl rfl rfl rfl ?_
            refine pq_k (pc' := 178) (v := (0, 32)) rfl rfl rfl (fun _ => rfl) ?_
            refine pq_lushr (pc' := 179) rfl rfl ?_
            refine pq_s2 (pc' := 181) rfl rfl rfl rfl rfl ?_
            refine pq_inc (pc' := 184) rfl rfl rfl rfl ?_
            refine pq_gotoT (pc' := 120) rfl rfl (fun m11 m11l => ?_)
            refine pq_w [(0, (2, ((l0 : Nat) : Int))), (1, (2, ((l1 : Nat) : Int))), (2, (2, ((l2 : Nat) : Int))), (3, (0, l3)), (4, (1, l4)), (6, (1, (ushJ (w64 (l6 + (w64 ((w64 (l4 * (andJ (cga s (l2 + 1) l9) 4294967295))) + (andJ (cga s (l0 + 1) (w32 (l3 + l9))) 4294967295))))) 32))), (8, (0, l8)), (9, (0, (w32 (l9 + 1))))] ⟨rfl, rfl, rfl, rfl, rfl, rfl, rfl, rfl, trivial⟩ ?_
            exact ih120 m11 (by omega) (by omega) (ushJ (w64 (l6 + (w64 ((w64 (l4 * (andJ (cga s (l2 + 1) l9) 4294967295))) + (andJ (cga s (l0 + 1) (w32 (l3 + l9))) 4294967295))))) 32) (ushJ_r _ _) (w32 (l9 + 1)) (w32_r _) s10 s10v hW
      unfold C_setProduct1_70 at hW
      refine pq_l (pc' := 71) rfl rfl rfl rfl rfl ?_
      refine pq_l (pc' := 72) rfl rfl rfl rfl rfl ?_
      refine pq_gi (pc' := 75) rfl rfl rfl rfl rfl (fun r12 => ?_)
      refine pq_c_ge (pt := 216) (pc' := 78) rfl rfl rfl (fun c13 => ?_) (fun c13 => ?_)
      · have hW := hW.1 c13
        refine pq_w [(0, (2, ((l0 : Nat) : Int)))] ⟨rfl, trivial⟩ ?_
        exact J216 N70 (by omega) l0 l0n s hv hW
      · have hW := hW.2 c13
        refine pq_l (pc' := 79) rfl rfl rfl rfl rfl ?_
        refine pq_l (pc' := 80) rfl rfl rfl rfl rfl ?_
        refine pq_gi (pc' := 83) rfl rfl rfl rfl rfl (fun r14 => ?_)
        refine pq_c_ge (pt := 216) (pc' := 86) rfl rfl rfl (fun c15 => ?_) (fun c15 => ?_)
        · have hW := hW.1 c15
          refine pq_w [(0, (2, ((l0 : Nat) : Int)))] ⟨rfl, trivial⟩ ?_
          exact J216 N70 (by omega) l0 l0n s hv hW
        · have hW := hW.2 c15
          refine pq_l (pc' := 87) rfl rfl rfl rfl rfl ?_
          refine pq_gr (pc' := 90) (c := (l1 + 1)) (v := 0) rfl rfl rfl rfl rfl rfl hv ?_
          refine pq_l (pc' := 91) rfl rfl rfl rfl rfl ?_
          refine pq_ia (pc' := 92) rfl rfl (fun r16a r16b r16 => ?_)
          have hW := hW ⟨⟨r16a, r16b⟩, r16⟩
          refine pq_i2l (pc' := 93) rfl rfl r16 ?_
          refine pq_k (pc' := 96) (v := (1, 4294967295)) rfl rfl rfl (fun _ => rfl) ?_
          refine pq_land (pc' := 97) rfl rfl ?_
          refine pq_s2 (pc' := 99) rfl rfl rfl rfl rfl ?_
          refine pq_k (pc' := 100) (v := (1, 0)) rfl rfl rfl (fun _ => rfl) ?_
          refine pq_s2 (pc' := 102) rfl rfl rfl rfl rfl ?_
          refine pq_l (pc' := 103) rfl rfl rfl rfl rfl ?_
          refine pq_gi (pc' := 106) rfl rfl rfl rfl rfl (fun r17 => ?_)
          refine pq_l (pc' := 107) rfl rfl rfl rfl rfl ?_
          refine pq_gi (pc' := 110) rfl rfl rfl rfl rfl (fun r18 => ?_)
          refine pq_l (pc' := 111) rfl rfl rfl rfl rfl ?_
          refine pq_sub (pc' := 112) rfl rfl ?_
          refine pq_cSI (pc' := 115) rfl rfl rfl rfl rfl (c_J9_min_7cf53 L ys d s hv (cgf s l2 1) r17 (w32 ((cgf s l0 1) - l3)) (w32_r _) _ hW) (fun z20 s19 hr => ?_)
          obtain ⟨s19v, z20r, hW⟩ := hr
          refine pq_s (pc' := 117) rfl rfl rfl rfl rfl ?_
          refine pq_k (pc' := 118) (v := (0, 0)) rfl rfl rfl (fun _ => rfl) ?_
          refine pq_s (pc' := 120) rfl rfl rfl rfl rfl ?_
          refine pq_w [(0, (2, ((l0 : Nat) : Int))), (1, (2, ((l1 : Nat) : Int))), (2, (2, ((l2 : Nat) : Int))), (3, (0, l3)), (4, (1, (andJ (cga s (l1 + 1) l3) 4294967295))), (6, (1, 0)), (8, (0, z20)), (9, (0, 0))] ⟨rfl, rfl, rfl, rfl, rfl, rfl, rfl, rfl, trivial⟩ ?_
          obtain ⟨I9, hI9, hB9⟩ := hW
          exact J120 l3 l3r (andJ (cga s (l1 + 1) l3) 4294967295) (andJ_r _ _) z20 z20r I9 hB9 N70 (by omega) 0 (⟨by decide, by decide⟩ : lR 0) 0 (⟨by decide, by decide⟩ : iR 0) s19 s19v hI9
  have J47 : ∀ (l0 : Nat) (l0n : nb l0) (l1 : Nat) (l2 : Nat) (I47 : Int × im_S → Prop) (hB47 : ∀ a : Int × im_S, I47 a → C_setProduct1_47 I47 l0 l1 l2 a.1 a.2 Q), ∀ N47 : Nat, N47 ≤ N → ∀ (l3 : Int) (l3r : iR l3) (s : im_S) (hv : jI s), I47 (l3, s) → pq L ys d N47 rm_p_X1_setProduct (47, [(0, (2, ((l0 : Nat) : Int))), (1, (2, ((l1 : Nat) : Int))), (2, (2, ((l2 : Nat) : Int))), (3, (0, l3))], [], s) (fun r : im_Re => r.1 = none ∧ (jI r.2 ∧ Q r.2)) := by
    intro l0 l0n l1 l2 I47 hB47 N47
    induction N47 using Nat.strongRecOn with
    | _ N47 ih47 =>
      intro hN47 l3 l3r s hv hI
      have hW : C_setProduct1_47 I47 l0 l1 l2 l3 s Q := hB47 (l3, s) hI
      unfold C_setProduct1_47 at hW
      refine pq_l (pc' := 48) rfl rfl rfl rfl rfl ?_
      refine pq_l (pc' := 49) rfl rfl rfl rfl rfl ?_
      refine pq_gi (pc' := 52) rfl rfl rfl rfl rfl (fun r21 => ?_)
      refine pq_c_ge (pt := 68) (pc' := 55) rfl rfl rfl (fun c22 => ?_) (fun c22 => ?_)
      · have hW := hW.1 c22
        refine pq_k (pc' := 69) (v := (0, 0)) rfl rfl rfl (fun _ => rfl) ?_
        refine pq_s (pc' := 70) rfl rfl rfl rfl rfl ?_
        refine pq_w [(0, (2, ((l0 : Nat) : Int))), (1, (2, ((l1 : Nat) : Int))), (2, (2, ((l2 : Nat) : Int))), (3, (0, 0))] ⟨rfl, rfl, rfl, rfl, trivial⟩ ?_
        obtain ⟨I9, hI9, hB9⟩ := hW
        exact J70 l0 l0n l1 l2 I9 hB9 N47 (by omega) 0 (⟨by decide, by decide⟩ : iR 0) s hv hI9
      · have hW := hW.2 c22
        refine pq_l (pc' := 56) rfl rfl rfl rfl rfl ?_
        refine pq_gr (pc' := 59) (c := (l0 + 1)) (v := 0) rfl rfl rfl rfl rfl rfl hv ?_
        refine pq_l (pc' := 60) rfl rfl rfl rfl rfl ?_
        refine pq_k (pc' := 61) (v := (0, 0)) rfl rfl rfl (fun _ => rfl) ?_
        refine pq_is (pc' := 62) rfl rfl (fun e => l0n.1 (Nat.succ.inj e)) (fun e => l0n.2 (Nat.succ.inj e)) hv (fun s23a s23b s23 s23e s23v => ?_)
        have hW := hW ⟨s23a, s23b⟩ s23 s23e
        refine pq_inc (pc' := 65) rfl rfl rfl rfl ?_
        refine pq_gotoT (pc' := 47) rfl rfl (fun m24 m24l => ?_)
        refine pq_w [(0, (2, ((l0 : Nat) : Int))), (1, (2, ((l1 : Nat) : Int))), (2, (2, ((l2 : Nat) : Int))), (3, (0, (w32 (l3 + 1))))] ⟨rfl, rfl, rfl, rfl, trivial⟩ ?_
        exact ih47 m24 (by omega) (by omega) (w32 (l3 + 1)) (w32_r _) s23 s23v hW
  have J42 : ∀ N42 : Nat, N42 ≤ N → ∀ (l0 : Nat) (l0n : nb l0) (l1 : Nat) (l2 : Nat) (k1 : Int) (k1r : iR k1) (s : im_S) (hv : jI s), C_setProduct1_42 l0 l1 l2 k1 s Q → pq L ys d N42 rm_p_X1_setProduct (42, [(0, (2, ((l0 : Nat) : Int))), (1, (2, ((l1 : Nat) : Int))), (2, (2, ((l2 : Nat) : Int)))], [(0, k1), (2, ((l0 : Nat) : Int))], s) (fun r : im_Re => r.1 = none ∧ (jI r.2 ∧ Q r.2)) := by
    intro N42 hN42 l0 l0n l1 l2 k1 k1r s hv hW
    unfold C_setProduct1_42 at hW
    refine pq_pB (pc' := 45) rfl rfl rfl l0n hv (fun s25 s25e s25v => ?_)
    have hW := hW s25 s25e
    refine pq_k (pc' := 46) (v := (0, 0)) rfl rfl rfl (fun _ => rfl) ?_
    refine pq_s (pc' := 47) rfl rfl rfl rfl rfl ?_
    refine pq_w [(0, (2, ((l0 : Nat) : Int))), (1, (2, ((l1 : Nat) : Int))), (2, (2, ((l2 : Nat) : Int))), (3, (0, 0))] ⟨rfl, rfl, rfl, rfl, trivial⟩ ?_
    obtain ⟨I9, hI9, hB9⟩ := hW
    exact J47 l0 l0n l1 l2 I9 hB9 N42 (by omega) 0 (⟨by decide, by decide⟩ : iR 0) s25 s25v hI9
  unfold C_setProduct1 at hW
  refine pq_l (pc' := 1) rfl rfl rfl rfl rfl ?_
  refine pq_l (pc' := 2) rfl rfl rfl rfl rfl ?_
  refine pq_gi (pc' := 5) rfl rfl rfl rfl rfl (fun r26 => ?_)
  refine pq_l (pc' := 6) rfl rfl rfl rfl rfl ?_
  refine pq_gi (pc' := 9) rfl rfl rfl rfl rfl (fun r27 => ?_)
  refine pq_mul (pc' := 10) rfl rfl ?_
  refine pq_pB (pc' := 13) rfl rfl rfl l0n hv (fun s28 s28e s28v => ?_)
  have hW := hW s28 s28e
  refine pq_l (pc' := 14) rfl rfl rfl rfl rfl ?_
  refine pq_l (pc' := 15) rfl rfl rfl rfl rfl ?_
  refine pq_gi (pc' := 18) rfl rfl rfl rfl rfl (fun r29 => ?_)
  refine pq_z_ne (pt := 25) (pc' := 21) rfl rfl rfl (fun c30 => ?_) (fun c30 => ?_)
  · have hW := hW.1 c30
    refine pq_l (pc' := 26) rfl rfl rfl rfl rfl ?_
    refine pq_gi (pc' := 29) rfl rfl rfl rfl rfl (fun r31 => ?_)
    refine pq_l (pc' := 30) rfl rfl rfl rfl rfl ?_
    refine pq_gi (pc' := 33) rfl rfl rfl rfl rfl (fun r32 => ?_)
    refine pq_add (pc' := 34) rfl rfl ?_
    refine pq_l (pc' := 35) rfl rfl rfl rfl rfl ?_
    refine pq_gr (pc' := 38) (c := (l0 + 1)) (v := 0) rfl rfl rfl rfl rfl rfl s28v ?_
    refine pq_alen (pc' := 39) rfl rfl ?_
    refine pq_cSI (pc' := 42) rfl rfl rfl rfl rfl (c_J9_min_7cf53 L ys d s28 s28v (w32 ((cgf s28 l1 1) + (cgf s28 l2 1))) (w32_r _) (gln (l0 + 1)) (gln_r _) _ hW) (fun z34 s33 hr => ?_)
    obtain ⟨s33v, z34r, hW⟩ := hr
    refine pq_w [(0, (2, ((l0 : Nat) : Int))), (1, (2, ((l1 : Nat) : Int))), (2, (2, ((l2 : Nat) : Int)))] ⟨rfl, rfl, rfl, trivial⟩ ?_
    exact J42 N (by omega) l0 l0n l1 l2 z34 z34r s33 s33v hW
  · have hW := hW.2 c30
    refine pq_k (pc' := 22) (v := (0, 0)) rfl rfl rfl (fun _ => rfl) ?_
    refine pq_goto (pc' := 42) rfl rfl ?_
    refine pq_w [(0, (2, ((l0 : Nat) : Int))), (1, (2, ((l1 : Nat) : Int))), (2, (2, ((l2 : Nat) : Int)))] ⟨rfl, rfl, rfl, trivial⟩ ?_
    exact J42 N (by omega) l0 l0n l1 l2 0 (⟨by decide, by decide⟩ : iR 0) s28 s28v hW
