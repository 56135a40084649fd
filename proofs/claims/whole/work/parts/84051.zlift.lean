/-! THE CLASS'S READER WITH ITS PROGRAM -/
/-- the program in the class's row -/
def prg (s : im_S) (l : List Int) : Prop := s.1 2 13 = (l.length : Int) ∧ ∀ (i : Nat) (c : Int), l[i]? = some c → s.2 82 i = c
theorem prg_fr {F : Nat → Nat → Prop} {R : Nat → Prop} {s s' : im_S} {l : List Int} (h : prg s l) (f : gfr F R s s') (h1 : ¬ F 2 13) (h2 : ¬ R 82) : prg s' l := ⟨by rw [f.1 _ _ h1]; exact h.1, fun i c e => by rw [f.2 _ h2]; exact h.2 i c e⟩
theorem prg_lk {s s' : im_S} {l : List Int} (h : prg s l) (f : lkf s s') : prg s' l := prg_fr h f (by omega) (fun z => z)
theorem prg_vf {a : Nat} {s s' : im_S} {l : List Int} (h : prg s l) (f : vfr a s s') : prg s' l := prg_fr h f (by omega) (by omega)
theorem emit_z {x : Int} {s : im_S} {l : List Int} {Q : im_S → Prop} (h : prg s l) (hl : l.length < 160) (hQ : ∀ s', gfr (fun c f => c = 2 ∧ f = 13) (fun c => c = 82) s s' → prg s' (l ++ [x]) → Q s') : C_emit7 x s Q := by
  obtain ⟨a, b⟩ := h
  have e13 : cgf s 2 13 = (l.length : Int) := a
  refine ⟨fun c => by omega, fun c _ s1 e1 s2 e2 => hQ s2 ?_ ?_⟩
  · subst e2; subst e1; exact gfr_pf (gfr_pa (gfr_refl _ _ _) rfl) ⟨rfl, rfl⟩
  · have f13 : cgf s1 2 13 = (l.length : Int) := by subst e1; exact a
    refine ⟨?_, fun i c e => ?_⟩
    · rw [e2, cpf_same, f13, w32_id (by omega) (by omega), List.length_append]; rfl
    · have r : s2.2 82 i = if i = l.length then x else s.2 82 i := by
        have : s2.2 = s1.2 := by subst e2; rfl
        rw [this, e1, cpa_row, e13, Int.toNat_natCast]
      rw [r]
      by_cases q : i < l.length
      · rw [if_neg (by omega)]
        rw [List.getElem?_append_left q] at e
        exact b i c e
      · have ei : i = l.length := by
          by_cases w : i < l.length + 1
          · omega
          · rw [List.getElem?_eq_none (by rw [List.length_append]; show l.length + 1 ≤ i; omega)] at e; cases e
        rw [if_pos ei]
        rw [ei, List.getElem?_append_right (Nat.le_refl _), Nat.sub_self] at e
        cases e
        rfl
def zcO (tx : Nat → Int) (n j : Nat) (s' : im_S) : ou atz → Prop
  | .inl e => bdS s' e
  | .inr (j', B) => gdS tx n s' j' ∧ ctx tx n s' ∧ tat s' B.1 ∧ j < j' ∧ prg s' B.2
def CZt (c : Nat) (l1 : Int) (s : im_S) (Q : im_S → Prop) : Prop := (∃ e, bdS s e ∧ ∀ s', bdS s' e → Q s') ∨ ∃ (tx : Nat → Int) (n j d : Nat) (A : atz), ctx tx n s ∧ gdS tx n s j ∧ (tat s A.1 ∧ prg s A.2 ∧ A.2.length ≤ 13 * A.1.length) ∧ l1 = (d : Int) ∧ d ≤ 10 ∧ ∀ s' r, Tz tx n c 0 d j A r → zcO tx n j s' r → Q s'
def CZ_readOne (l1 : Int) (s : im_S) (Q : im_S → Prop) : Prop := CZt 1 l1 s Q
def CZ_readAll (l1 : Int) (s : im_S) (Q : im_S → Prop) : Prop := CZt 2 l1 s Q
def CZ_readText (l1 : Int) (s : im_S) (Q : im_S → Prop) : Prop := CZt 4 l1 s Q
def CZ_readAtom (s : im_S) (Q : im_S → Prop) : Prop := (∃ e, bdS s e ∧ ∀ s', bdS s' e → Q s') ∨ ∃ (tx : Nat → Int) (n j : Nat) (A : atz), ctx tx n s ∧ gdS tx n s j ∧ (tat s A.1 ∧ prg s A.2 ∧ A.2.length ≤ 13 * A.1.length) ∧ ∀ s' r, zAT tx n j A r → zcO tx n j s' r → Q s'
theorem CZt_b {c : Nat} {l1 : Int} {s : im_S} {e : Int × Int} {Q : im_S → Prop} (h : bdS s e) (hQ : ∀ s', bdS s' e → Q s') : CZt c l1 s Q := Or.inl ⟨e, h, hQ⟩
theorem CZt_g {c : Nat} {s : im_S} {tx : Nat → Int} {n j d : Nat} {A : atz} {Q : im_S → Prop} (hc : ctx tx n s) (h : gdS tx n s j) (hA : tat s A.1 ∧ prg s A.2 ∧ A.2.length ≤ 13 * A.1.length) (hd : d ≤ 10) (hQ : ∀ s' r, Tz tx n c 0 d j A r → zcO tx n j s' r → Q s') : CZt c (d : Int) s Q := Or.inr ⟨tx, n, j, d, A, hc, h, hA, rfl, hd, hQ⟩
def RZ_readText7z (L : Nat) (ys : Nat → Int32) (d : Nat) : Prop := ∀ (s : im_S) (hv : jI s) (l1 : Int) (l1r : iR l1) (Q : im_S → Prop), CZ_readText l1 s Q → pcV L ys d 200 [(2, ((2 : Nat) : Int)), (0, l1)] s (fun s9 => jI s9 ∧ Q s9)
def RZ_readAll7z (L : Nat) (ys : Nat → Int32) (d : Nat) : Prop := ∀ (s : im_S) (hv : jI s) (l1 : Int) (l1r : iR l1) (Q : im_S → Prop), CZ_readAll l1 s Q → pcV L ys d 192 [(2, ((2 : Nat) : Int)), (0, l1)] s (fun s9 => jI s9 ∧ Q s9)
def RZ_readOne7z (L : Nat) (ys : Nat → Int32) (d : Nat) : Prop := ∀ (s : im_S) (hv : jI s) (l1 : Int) (l1r : iR l1) (Q : im_S → Prop), CZ_readOne l1 s Q → pcV L ys d 196 [(2, ((2 : Nat) : Int)), (0, l1)] s (fun s9 => jI s9 ∧ Q s9)
def RZ_readAtom7z (L : Nat) (ys : Nat → Int32) (d : Nat) : Prop := ∀ (s : im_S) (hv : jI s) (Q : im_S → Prop), CZ_readAtom s Q → pcV L ys d 193 [(2, ((2 : Nat) : Int))] s (fun s9 => jI s9 ∧ Q s9)
def RZ (L : Nat) (ys : Nat → Int32) (d : Nat) : Prop := RZ_readText7z L ys d ∧ RZ_readAll7z L ys d ∧ RZ_readOne7z L ys d ∧ RZ_readAtom7z L ys d ∧ RV_readSum7v L ys d ∧ True
def C_readText7z_44 (s : im_S) (Q : im_S → Prop) : Prop := (Q s)
def C_readText7z_7 (K7 : Int × im_S → Prop) (l1 : Int) (l2 : Int) (s : im_S) (Q : im_S → Prop) : Prop := ((400 ≤ l2 → (C_readText7z_44 s Q)) ∧ (¬ (400 ≤ l2) → ((¬ ((cgf s 2 3) = 124) → (C_readText7z_44 s Q)) ∧ ((cgf s 2 3) = 124 → (C_step7v s (fun s4 => (CZ_readAll l1 s4 (fun s6 => (C_emit7 12 s6 (fun s8 => (K7 ((w32 (l2 + 1)), s8))))))))))))
def C_readText7z (l1 : Int) (s : im_S) (Q : im_S → Prop) : Prop := (CZ_readAll l1 s (fun s11 => (ploop (fun (K : Int × im_S → Prop) (a : Int × im_S) => C_readText7z_7 K l1 a.1 a.2 Q) (0, s11))))
set_option maxRecDepth 16384 in
theorem c_readText7z (L : Nat) (ys : Nat → Int32) (d : Nat) (hS : RZ L ys d) (s : im_S) (hv : jI s) (l1 : Int) (l1r : iR l1) (Q : im_S → Prop) (hW : C_readText7z l1 s Q) : pcV L ys (d + 1) 200 [(2, ((2 : Nat) : Int)), (0, l1)] s (fun s9 => jI s9 ∧ Q s9) := by
  intro res hres
  refine pq_start_s (M := rm_p_X7_readText) (Q := (fun r : im_Re => r.1 = none ∧ (jI r.2 ∧ Q r.2))) om_X7_readText (fun N => ?_) res hres
  refine pq_w [(0, (2, ((2 : Nat) : Int))), (1, (0, l1))] ⟨rfl, rfl, trivial⟩ ?_
  have J44 : ∀ N44 : Nat, N44 ≤ N → ∀ (s : im_S) (hv : jI s), C_readText7z_44 s Q → pq L ys d N44 rm_p_X7_readText (44, [], [], s) (fun r : im_Re => r.1 = none ∧ (jI r.2 ∧ Q r.2)) := by
    intro N44 hN44 s hv hW
    unfold C_readText7z_44 at hW
    exact pq_vret rfl ⟨rfl, hv, hW⟩
  have J7 : ∀ (l1 : Int) (l1r : iR l1) (I7 : Int × im_S → Prop) (hB7 : ∀ a : Int × im_S, I7 a → C_readText7z_7 I7 l1 a.1 a.2 Q), ∀ N7 : Nat, N7 ≤ N → ∀ (l2 : Int) (l2r : iR l2) (s : im_S) (hv : jI s), I7 (l2, s) → pq L ys d N7 rm_p_X7_readText (7, [(0, (2, ((2 : Nat) : Int))), (1, (0, l1)), (2, (0, l2))], [], s) (fun r : im_Re => r.1 = none ∧ (jI r.2 ∧ Q r.2)) := by
    intro l1 l1r I7 hB7 N7
    induction N7 using Nat.strongRecOn with
    | _ N7 ih7 =>
      intro hN7 l2 l2r s hv hI
      have hW : C_readText7z_7 I7 l1 l2 s Q := hB7 (l2, s) hI
      unfold C_readText7z_7 at hW
      refine pq_l (pc' := 8) rfl rfl rfl rfl rfl ?_
      refine pq_k (pc' := 11) (v := (0, 400)) rfl rfl rfl (fun _ => rfl) ?_
      refine pq_c_ge (pt := 44) (pc' := 14) rfl rfl rfl (fun c1 => ?_) (fun c1 => ?_)
      · have hW := hW.1 c1
        refine pq_w [] trivial ?_
        exact J44 N7 (by omega) s hv hW
      · have hW := hW.2 c1
        refine pq_l (pc' := 15) rfl rfl rfl rfl rfl ?_
        refine pq_gi (pc' := 18) rfl rfl rfl rfl rfl (fun r2 => ?_)
        refine pq_k (pc' := 20) (v := (0, 124)) rfl rfl rfl (fun _ => rfl) ?_
        refine pq_c_ne (pt := 44) (pc' := 23) rfl rfl rfl (fun c3 => ?_) (fun c3 => ?_)
        · have hW := hW.1 c3
          refine pq_w [] trivial ?_
          exact J44 N7 (by omega) s hv hW
        · have hW := hW.2 c3
          refine pq_l (pc' := 24) rfl rfl rfl rfl rfl ?_
          refine pq_cVV (pc' := 27) rfl rfl rfl rfl rfl (c_step7v L ys d s hv  _ hW) (fun s4 hr => ?_)
          obtain ⟨s4v, hW⟩ := hr
          refine pq_l (pc' := 28) rfl rfl rfl rfl rfl ?_
          refine pq_l (pc' := 29) rfl rfl rfl rfl rfl ?_
          refine pq_cVV (pc' := 32) rfl rfl rfl rfl rfl (hS.2.1 s4 s4v l1 l1r _ hW) (fun s6 hr => ?_)
          obtain ⟨s6v, hW⟩ := hr
          refine pq_l (pc' := 33) rfl rfl rfl rfl rfl ?_
          refine pq_k (pc' := 35) (v := (0, 12)) rfl rfl rfl (fun _ => rfl) ?_
          refine pq_cVV (pc' := 38) rfl rfl rfl rfl rfl (c_emit7 L ys d s6 s6v 12 (⟨by decide, by decide⟩ : iR 12) _ hW) (fun s8 hr => ?_)
          obtain ⟨s8v, hW⟩ := hr
          refine pq_inc (pc' := 41) rfl rfl rfl rfl ?_
          refine pq_gotoT (pc' := 7) rfl rfl (fun m10 m10l => ?_)
          refine pq_w [(0, (2, ((2 : Nat) : Int))), (1, (0, l1)), (2, (0, (w32 (l2 + 1))))] ⟨rfl, rfl, rfl, trivial⟩ ?_
          exact ih7 m10 (by omega) (by omega) (w32 (l2 + 1)) (w32_r _) s8 s8v hW
  unfold C_readText7z at hW
  refine pq_l (pc' := 1) rfl rfl rfl rfl rfl ?_
  refine pq_l (pc' := 2) rfl rfl rfl rfl rfl ?_
  refine pq_cVV (pc' := 5) rfl rfl rfl rfl rfl (hS.2.1 s hv l1 l1r _ hW) (fun s11 hr => ?_)
  obtain ⟨s11v, hW⟩ := hr
  refine pq_k (pc' := 6) (v := (0, 0)) rfl rfl rfl (fun _ => rfl) ?_
  refine pq_s (pc' := 7) rfl rfl rfl rfl rfl ?_
  refine pq_w [(0, (2, ((2 : Nat) : Int))), (1, (0, l1)), (2, (0, 0))] ⟨rfl, rfl, rfl, trivial⟩ ?_
  obtain ⟨I9, hI9, hB9⟩ := hW
  exact J7 l1 l1r I9 hB9 N (by omega) 0 (⟨by decide, by decide⟩ : iR 0) s11 s11v hI9
def C_readAll7z_44 (s : im_S) (Q : im_S → Prop) : Prop := (Q s)
def C_readAll7z_7 (K7 : Int × im_S → Prop) (l1 : Int) (l2 : Int) (s : im_S) (Q : im_S → Prop) : Prop := ((400 ≤ l2 → (C_readAll7z_44 s Q)) ∧ (¬ (400 ≤ l2) → ((¬ ((cgf s 2 3) = 38) → (C_readAll7z_44 s Q)) ∧ ((cgf s 2 3) = 38 → (C_step7v s (fun s4 => (CZ_readOne l1 s4 (fun s6 => (C_emit7 11 s6 (fun s8 => (K7 ((w32 (l2 + 1)), s8))))))))))))
def C_readAll7z (l1 : Int) (s : im_S) (Q : im_S → Prop) : Prop := (CZ_readOne l1 s (fun s11 => (ploop (fun (K : Int × im_S → Prop) (a : Int × im_S) => C_readAll7z_7 K l1 a.1 a.2 Q) (0, s11))))
set_option maxRecDepth 16384 in
theorem c_readAll7z (L : Nat) (ys : Nat → Int32) (d : Nat) (hS : RZ L ys d) (s : im_S) (hv : jI s) (l1 : Int) (l1r : iR l1) (Q : im_S → Prop) (hW : C_readAll7z l1 s Q) : pcV L ys (d + 1) 192 [(2, ((2 : Nat) : Int)), (0, l1)] s (fun s9 => jI s9 ∧ Q s9) := by
  intro res hres
  refine pq_start_s (M := rm_p_X7_readAll) (Q := (fun r : im_Re => r.1 = none ∧ (jI r.2 ∧ Q r.2))) om_X7_readAll (fun N => ?_) res hres
  refine pq_w [(0, (2, ((2 : Nat) : Int))), (1, (0, l1))] ⟨rfl, rfl, trivial⟩ ?_
  have J44 : ∀ N44 : Nat, N44 ≤ N → ∀ (s : im_S) (hv : jI s), C_readAll7z_44 s Q → pq L ys d N44 rm_p_X7_readAll (44, [], [], s) (fun r : im_Re => r.1 = none ∧ (jI r.2 ∧ Q r.2)) := by
    intro N44 hN44 s hv hW
    unfold C_readAll7z_44 at hW
    exact pq_vret rfl ⟨rfl, hv, hW⟩
  have J7 : ∀ (l1 : Int) (l1r : iR l1) (I7 : Int × im_S → Prop) (hB7 : ∀ a : Int × im_S, I7 a → C_readAll7z_7 I7 l1 a.1 a.2 Q), ∀ N7 : Nat, N7 ≤ N → ∀ (l2 : Int) (l2r : iR l2) (s : im_S) (hv : jI s), I7 (l2, s) → pq L ys d N7 rm_p_X7_readAll (7, [(0, (2, ((2 : Nat) : Int))), (1, (0, l1)), (2, (0, l2))], [], s) (fun r : im_Re => r.1 = none ∧ (jI r.2 ∧ Q r.2)) := by
    intro l1 l1r I7 hB7 N7
    induction N7 using Nat.strongRecOn with
    | _ N7 ih7 =>
      intro hN7 l2 l2r s hv hI
      have hW : C_readAll7z_7 I7 l1 l2 s Q := hB7 (l2, s) hI
      unfold C_readAll7z_7 at hW
      refine pq_l (pc' := 8) rfl rfl rfl rfl rfl ?_
      refine pq_k (pc' := 11) (v := (0, 400)) rfl rfl rfl (fun _ => rfl) ?_
      refine pq_c_ge (pt := 44) (pc' := 14) rfl rfl rfl (fun c1 => ?_) (fun c1 => ?_)
      · have hW := hW.1 c1
        refine pq_w [] trivial ?_
        exact J44 N7 (by omega) s hv hW
      · have hW := hW.2 c1
        refine pq_l (pc' := 15) rfl rfl rfl rfl rfl ?_
        refine pq_gi (pc' := 18) rfl rfl rfl rfl rfl (fun r2 => ?_)
        refine pq_k (pc' := 20) (v := (0, 38)) rfl rfl rfl (fun _ => rfl) ?_
        refine pq_c_ne (pt := 44) (pc' := 23) rfl rfl rfl (fun c3 => ?_) (fun c3 => ?_)
        · have hW := hW.1 c3
          refine pq_w [] trivial ?_
          exact J44 N7 (by omega) s hv hW
        · have hW := hW.2 c3
          refine pq_l (pc' := 24) rfl rfl rfl rfl rfl ?_
          refine pq_cVV (pc' := 27) rfl rfl rfl rfl rfl (c_step7v L ys d s hv  _ hW) (fun s4 hr => ?_)
          obtain ⟨s4v, hW⟩ := hr
          refine pq_l (pc' := 28) rfl rfl rfl rfl rfl ?_
          refine pq_l (pc' := 29) rfl rfl rfl rfl rfl ?_
          refine pq_cVV (pc' := 32) rfl rfl rfl rfl rfl (hS.2.2.1 s4 s4v l1 l1r _ hW) (fun s6 hr => ?_)
          obtain ⟨s6v, hW⟩ := hr
          refine pq_l (pc' := 33) rfl rfl rfl rfl rfl ?_
          refine pq_k (pc' := 35) (v := (0, 11)) rfl rfl rfl (fun _ => rfl) ?_
          refine pq_cVV (pc' := 38) rfl rfl rfl rfl rfl (c_emit7 L ys d s6 s6v 11 (⟨by decide, by decide⟩ : iR 11) _ hW) (fun s8 hr => ?_)
          obtain ⟨s8v, hW⟩ := hr
          refine pq_inc (pc' := 41) rfl rfl rfl rfl ?_
          refine pq_gotoT (pc' := 7) rfl rfl (fun m10 m10l => ?_)
          refine pq_w [(0, (2, ((2 : Nat) : Int))), (1, (0, l1)), (2, (0, (w32 (l2 + 1))))] ⟨rfl, rfl, rfl, trivial⟩ ?_
          exact ih7 m10 (by omega) (by omega) (w32 (l2 + 1)) (w32_r _) s8 s8v hW
  unfold C_readAll7z at hW
  refine pq_l (pc' := 1) rfl rfl rfl rfl rfl ?_
  refine pq_l (pc' := 2) rfl rfl rfl rfl rfl ?_
  refine pq_cVV (pc' := 5) rfl rfl rfl rfl rfl (hS.2.2.1 s hv l1 l1r _ hW) (fun s11 hr => ?_)
  obtain ⟨s11v, hW⟩ := hr
  refine pq_k (pc' := 6) (v := (0, 0)) rfl rfl rfl (fun _ => rfl) ?_
  refine pq_s (pc' := 7) rfl rfl rfl rfl rfl ?_
  refine pq_w [(0, (2, ((2 : Nat) : Int))), (1, (0, l1)), (2, (0, 0))] ⟨rfl, rfl, rfl, trivial⟩ ?_
  obtain ⟨I9, hI9, hB9⟩ := hW
  exact J7 l1 l1r I9 hB9 N (by omega) 0 (⟨by decide, by decide⟩ : iR 0) s11 s11v hI9
def C_readOne7z_115 (s : im_S) (Q : im_S → Prop) : Prop := (Q s)
def C_readOne7z_102 (l2 : Int) (s : im_S) (Q : im_S → Prop) : Prop := ((¬ ((remI l2 2) = 1) → (C_readOne7z_115 s Q)) ∧ ((remI l2 2) = 1 → (C_emit7 10 s (fun s2 => (C_readOne7z_115 s2 Q)))))
def C_readOne7z_51 (l1 : Int) (l2 : Int) (s : im_S) (Q : im_S → Prop) : Prop := (((cgf s 2 3) = 91 → ((l1 < 10 → (C_step7v s (fun s7 => (CZ_readText (w32 (l1 + 1)) s7 (fun s9 => (C_expect7v 93 s9 (fun s11 => (C_readOne7z_102 l2 s11 Q)))))))) ∧ (¬ (l1 < 10) → (C_fail7 3 (cgf s 2 2) s (fun s14 => (C_readOne7z_102 l2 s14 Q)))))) ∧ (¬ ((cgf s 2 3) = 91) → (CZ_readAtom s (fun s16 => (C_readOne7z_102 l2 s16 Q)))))
def C_readOne7z_45 (K4 : Int × Int × im_S → Prop) (l1 : Int) (l2 : Int) (l3 : Int) (s : im_S) (Q : im_S → Prop) : Prop := (K4 (l2, (w32 (l3 + 1)), s))
def C_readOne7z_4 (K4 : Int × Int × im_S → Prop) (l1 : Int) (l2 : Int) (l3 : Int) (s : im_S) (Q : im_S → Prop) : Prop := ((400 ≤ l3 → (C_readOne7z_51 l1 l2 s Q)) ∧ (¬ (400 ≤ l3) → ((¬ ((cgf s 2 3) = 126) → (C_readOne7z_51 l1 l2 s Q)) ∧ ((cgf s 2 3) = 126 → ((l2 < 10 → (C_step7v s (fun s23 => (C_readOne7z_45 K4 l1 (w32 (l2 + 1)) l3 s23 Q)))) ∧ (¬ (l2 < 10) → (C_fail7 3 (cgf s 2 2) s (fun s26 => (C_readOne7z_45 K4 l1 l2 l3 s26 Q)))))))))
def C_readOne7z (l1 : Int) (s : im_S) (Q : im_S → Prop) : Prop := (ploop (fun (K : Int × Int × im_S → Prop) (a : Int × Int × im_S) => C_readOne7z_4 K l1 a.1 a.2.1 a.2.2 Q) (0, 0, s))
set_option maxRecDepth 16384 in
theorem c_readOne7z (L : Nat) (ys : Nat → Int32) (d : Nat) (hS : RZ L ys d) (s : im_S) (hv : jI s) (l1 : Int) (l1r : iR l1) (Q : im_S → Prop) (hW : C_readOne7z l1 s Q) : pcV L ys (d + 1) 196 [(2, ((2 : Nat) : Int)), (0, l1)] s (fun s9 => jI s9 ∧ Q s9) := by
  intro res hres
  refine pq_start_s (M := rm_p_X7_readOne) (Q := (fun r : im_Re => r.1 = none ∧ (jI r.2 ∧ Q r.2))) om_X7_readOne (fun N => ?_) res hres
  refine pq_w [(0, (2, ((2 : Nat) : Int))), (1, (0, l1))] ⟨rfl, rfl, trivial⟩ ?_
  have J115 : ∀ N115 : Nat, N115 ≤ N → ∀ (s : im_S) (hv : jI s), C_readOne7z_115 s Q → pq L ys d N115 rm_p_X7_readOne (115, [], [], s) (fun r : im_Re => r.1 = none ∧ (jI r.2 ∧ Q r.2)) := by
    intro N115 hN115 s hv hW
    unfold C_readOne7z_115 at hW
    exact pq_vret rfl ⟨rfl, hv, hW⟩
  have J102 : ∀ N102 : Nat, N102 ≤ N → ∀ (l2 : Int) (l2r : iR l2) (s : im_S) (hv : jI s), C_readOne7z_102 l2 s Q → pq L ys d N102 rm_p_X7_readOne (102, [(0, (2, ((2 : Nat) : Int))), (2, (0, l2))], [], s) (fun r : im_Re => r.1 = none ∧ (jI r.2 ∧ Q r.2)) := by
    intro N102 hN102 l2 l2r s hv hW
    unfold C_readOne7z_102 at hW
    refine pq_l (pc' := 103) rfl rfl rfl rfl rfl ?_
    refine pq_k (pc' := 104) (v := (0, 2)) rfl rfl rfl (fun _ => rfl) ?_
    refine pq_irem (pc' := 105) rfl rfl ?_
    refine pq_k (pc' := 106) (v := (0, 1)) rfl rfl rfl (fun _ => rfl) ?_
    refine pq_c_ne (pt := 115) (pc' := 109) rfl rfl rfl (fun c1 => ?_) (fun c1 => ?_)
    · have hW := hW.1 c1
      refine pq_w [] trivial ?_
      exact J115 N102 (by omega) s hv hW
    · have hW := hW.2 c1
      refine pq_l (pc' := 110) rfl rfl rfl rfl rfl ?_
      refine pq_k (pc' := 112) (v := (0, 10)) rfl rfl rfl (fun _ => rfl) ?_
      refine pq_cVV (pc' := 115) rfl rfl rfl rfl rfl (c_emit7 L ys d s hv 10 (⟨by decide, by decide⟩ : iR 10) _ hW) (fun s2 hr => ?_)
      obtain ⟨s2v, hW⟩ := hr
      refine pq_w [] trivial ?_
      exact J115 N102 (by omega) s2 s2v hW
  have J51 : ∀ N51 : Nat, N51 ≤ N → ∀ (l1 : Int) (l1r : iR l1) (l2 : Int) (l2r : iR l2) (s : im_S) (hv : jI s), C_readOne7z_51 l1 l2 s Q → pq L ys d N51 rm_p_X7_readOne (51, [(0, (2, ((2 : Nat) : Int))), (1, (0, l1)), (2, (0, l2))], [], s) (fun r : im_Re => r.1 = none ∧ (jI r.2 ∧ Q r.2)) := by
    intro N51 hN51 l1 l1r l2 l2r s hv hW
    unfold C_readOne7z_51 at hW
    refine pq_l (pc' := 52) rfl rfl rfl rfl rfl ?_
    refine pq_gi (pc' := 55) rfl rfl rfl rfl rfl (fun r4 => ?_)
    refine pq_k (pc' := 57) (v := (0, 91)) rfl rfl rfl (fun _ => rfl) ?_
    refine pq_c_eq (pt := 67) (pc' := 60) rfl rfl rfl (fun c5 => ?_) (fun c5 => ?_)
    · have hW := hW.1 c5
      refine pq_l (pc' := 68) rfl rfl rfl rfl rfl ?_
      refine pq_k (pc' := 70) (v := (0, 10)) rfl rfl rfl (fun _ => rfl) ?_
      refine pq_c_lt (pt := 85) (pc' := 73) rfl rfl rfl (fun c6 => ?_) (fun c6 => ?_)
      · have hW := hW.1 c6
        refine pq_l (pc' := 86) rfl rfl rfl rfl rfl ?_
        refine pq_cVV (pc' := 89) rfl rfl rfl rfl rfl (c_step7v L ys d s hv  _ hW) (fun s7 hr => ?_)
        obtain ⟨s7v, hW⟩ := hr
        refine pq_l (pc' := 90) rfl rfl rfl rfl rfl ?_
        refine pq_l (pc' := 91) rfl rfl rfl rfl rfl ?_
        refine pq_k (pc' := 92) (v := (0, 1)) rfl rfl rfl (fun _ => rfl) ?_
        refine pq_add (pc' := 93) rfl rfl ?_
        refine pq_cVV (pc' := 96) rfl rfl rfl rfl rfl (hS.1 s7 s7v (w32 (l1 + 1)) (w32_r _) _ hW) (fun s9 hr => ?_)
        obtain ⟨s9v, hW⟩ := hr
        refine pq_l (pc' := 97) rfl rfl rfl rfl rfl ?_
        refine pq_k (pc' := 99) (v := (0, 93)) rfl rfl rfl (fun _ => rfl) ?_
        refine pq_cVV (pc' := 102) rfl rfl rfl rfl rfl (c_expect7v L ys d s9 s9v 93 (⟨by decide, by decide⟩ : iR 93) _ hW) (fun s11 hr => ?_)
        obtain ⟨s11v, hW⟩ := hr
        refine pq_w [(0, (2, ((2 : Nat) : Int))), (2, (0, l2))] ⟨rfl, rfl, trivial⟩ ?_
        exact J102 N51 (by omega) l2 l2r s11 s11v hW
      · have hW := hW.2 c6
        refine pq_l (pc' := 74) rfl rfl rfl rfl rfl ?_
        refine pq_k (pc' := 75) (v := (0, 3)) rfl rfl rfl (fun _ => rfl) ?_
        refine pq_l (pc' := 76) rfl rfl rfl rfl rfl ?_
        refine pq_gi (pc' := 79) rfl rfl rfl rfl rfl (fun r13 => ?_)
        refine pq_cVV (pc' := 82) rfl rfl rfl rfl rfl (c_fail7 L ys d s hv 3 (⟨by decide, by decide⟩ : iR 3) (cgf s 2 2) r13 _ hW) (fun s14 hr => ?_)
        obtain ⟨s14v, hW⟩ := hr
        refine pq_goto (pc' := 102) rfl rfl ?_
        refine pq_w [(0, (2, ((2 : Nat) : Int))), (2, (0, l2))] ⟨rfl, rfl, trivial⟩ ?_
        exact J102 N51 (by omega) l2 l2r s14 s14v hW
    · have hW := hW.2 c5
      refine pq_l (pc' := 61) rfl rfl rfl rfl rfl ?_
      refine pq_cVV (pc' := 64) rfl rfl rfl rfl rfl (hS.2.2.2.1 s hv  _ hW) (fun s16 hr => ?_)
      obtain ⟨s16v, hW⟩ := hr
      refine pq_goto (pc' := 102) rfl rfl ?_
      refine pq_w [(0, (2, ((2 : Nat) : Int))), (2, (0, l2))] ⟨rfl, rfl, trivial⟩ ?_
      exact J102 N51 (by omega) l2 l2r s16 s16v hW
  have J4 : ∀ (l1 : Int) (l1r : iR l1) (I4 : Int × Int × im_S → Prop) (hB4 : ∀ a : Int × Int × im_S, I4 a → C_readOne7z_4 I4 l1 a.1 a.2.1 a.2.2 Q), ∀ N4 : Nat, N4 ≤ N → ∀ (l2 : Int) (l2r : iR l2) (l3 : Int) (l3r : iR l3) (s : im_S) (hv : jI s), I4 (l2, l3, s) → pq L ys d N4 rm_p_X7_readOne (4, [(0, (2, ((2 : Nat) : Int))), (1, (0, l1)), (2, (0, l2)), (3, (0, l3))], [], s) (fun r : im_Re => r.1 = none ∧ (jI r.2 ∧ Q r.2)) := by
    intro l1 l1r I4 hB4 N4
    induction N4 using Nat.strongRecOn with
    | _ N4 ih4 =>
      intro hN4 l2 l2r l3 l3r s hv hI
      have hW : C_readOne7z_4 I4 l1 l2 l3 s Q := hB4 (l2, l3, s) hI
      have J45 : ∀ N45 : Nat, N45 ≤ N4 → ∀ (l2 : Int) (l2r : iR l2) (l3 : Int) (l3r : iR l3) (s : im_S) (hv : jI s), C_readOne7z_45 I4 l1 l2 l3 s Q → pq L ys d N45 rm_p_X7_readOne (45, [(0, (2, ((2 : Nat) : Int))), (1, (0, l1)), (2, (0, l2)), (3, (0, l3))], [], s) (fun r : im_Re => r.1 = none ∧ (jI r.2 ∧ Q r.2)) := by
        intro N45 hN45 l2 l2r l3 l3r s hv hW
        unfold C_readOne7z_45 at hW
        refine pq_inc (pc' := 48) rfl rfl rfl rfl ?_
        refine pq_gotoT (pc' := 4) rfl rfl (fun m18 m18l => ?_)
        refine pq_w [(0, (2, ((2 : Nat) : Int))), (1, (0, l1)), (2, (0, l2)), (3, (0, (w32 (l3 + 1))))] ⟨rfl, rfl, rfl, rfl, trivial⟩ ?_
        exact ih4 m18 (by omega) (by omega) l2 l2r (w32 (l3 + 1)) (w32_r _) s hv hW
      unfold C_readOne7z_4 at hW
      refine pq_l (pc' := 5) rfl rfl rfl rfl rfl ?_
      refine pq_k (pc' := 8) (v := (0, 400)) rfl rfl rfl (fun _ => rfl) ?_
      refine pq_c_ge (pt := 51) (pc' := 11) rfl rfl rfl (fun c19 => ?_) (fun c19 => ?_)
      · have hW := hW.1 c19
        refine pq_w [(0, (2, ((2 : Nat) : Int))), (1, (0, l1)), (2, (0, l2))] ⟨rfl, rfl, rfl, trivial⟩ ?_
        exact J51 N4 (by omega) l1 l1r l2 l2r s hv hW
      · have hW := hW.2 c19
        refine pq_l (pc' := 12) rfl rfl rfl rfl rfl ?_
        refine pq_gi (pc' := 15) rfl rfl rfl rfl rfl (fun r20 => ?_)
        refine pq_k (pc' := 17) (v := (0, 126)) rfl rfl rfl (fun _ => rfl) ?_
        refine pq_c_ne (pt := 51) (pc' := 20) rfl rfl rfl (fun c21 => ?_) (fun c21 => ?_)
        · have hW := hW.1 c21
          refine pq_w [(0, (2, ((2 : Nat) : Int))), (1, (0, l1)), (2, (0, l2))] ⟨rfl, rfl, rfl, trivial⟩ ?_
          exact J51 N4 (by omega) l1 l1r l2 l2r s hv hW
        · have hW := hW.2 c21
          refine pq_l (pc' := 21) rfl rfl rfl rfl rfl ?_
          refine pq_k (pc' := 23) (v := (0, 10)) rfl rfl rfl (fun _ => rfl) ?_
          refine pq_c_lt (pt := 38) (pc' := 26) rfl rfl rfl (fun c22 => ?_) (fun c22 => ?_)
          · have hW := hW.1 c22
            refine pq_inc (pc' := 41) rfl rfl rfl rfl ?_
            refine pq_l (pc' := 42) rfl rfl rfl rfl rfl ?_
            refine pq_cVV (pc' := 45) rfl rfl rfl rfl rfl (c_step7v L ys d s hv  _ hW) (fun s23 hr => ?_)
            obtain ⟨s23v, hW⟩ := hr
            refine pq_w [(0, (2, ((2 : Nat) : Int))), (1, (0, l1)), (2, (0, (w32 (l2 + 1)))), (3, (0, l3))] ⟨rfl, rfl, rfl, rfl, trivial⟩ ?_
            exact J45 N4 (by omega) (w32 (l2 + 1)) (w32_r _) l3 l3r s23 s23v hW
          · have hW := hW.2 c22
            refine pq_l (pc' := 27) rfl rfl rfl rfl rfl ?_
            refine pq_k (pc' := 28) (v := (0, 3)) rfl rfl rfl (fun _ => rfl) ?_
            refine pq_l (pc' := 29) rfl rfl rfl rfl rfl ?_
            refine pq_gi (pc' := 32) rfl rfl rfl rfl rfl (fun r25 => ?_)
            refine pq_cVV (pc' := 35) rfl rfl rfl rfl rfl (c_fail7 L ys d s hv 3 (⟨by decide, by decide⟩ : iR 3) (cgf s 2 2) r25 _ hW) (fun s26 hr => ?_)
            obtain ⟨s26v, hW⟩ := hr
            refine pq_goto (pc' := 45) rfl rfl ?_
            refine pq_w [(0, (2, ((2 : Nat) : Int))), (1, (0, l1)), (2, (0, l2)), (3, (0, l3))] ⟨rfl, rfl, rfl, rfl, trivial⟩ ?_
            exact J45 N4 (by omega) l2 l2r l3 l3r s26 s26v hW
  unfold C_readOne7z at hW
  refine pq_k (pc' := 1) (v := (0, 0)) rfl rfl rfl (fun _ => rfl) ?_
  refine pq_s (pc' := 2) rfl rfl rfl rfl rfl ?_
  refine pq_k (pc' := 3) (v := (0, 0)) rfl rfl rfl (fun _ => rfl) ?_
  refine pq_s (pc' := 4) rfl rfl rfl rfl rfl ?_
  refine pq_w [(0, (2, ((2 : Nat) : Int))), (1, (0, l1)), (2, (0, 0)), (3, (0, 0))] ⟨rfl, rfl, rfl, rfl, trivial⟩ ?_
  obtain ⟨I9, hI9, hB9⟩ := hW
  exact J4 l1 l1r I9 hB9 N (by omega) 0 (⟨by decide, by decide⟩ : iR 0) 0 (⟨by decide, by decide⟩ : iR 0) s hv hI9
def C_readAtom7z_140 (s : im_S) (Q : im_S → Prop) : Prop := (Q s)
def C_readAtom7z_79 (l1 : Int) (s : im_S) (Q : im_S → Prop) : Prop := ((¬ ((cgf s 2 4) = 0) → (C_readAtom7z_140 s Q)) ∧ ((cgf s 2 4) = 0 → ((10 ≤ (cgf s 2 11) → (C_readAtom7z_140 s Q)) ∧ (¬ (10 ≤ (cgf s 2 11)) → (C_slot7 0 s (fun z8 s7 => (C_copy6 (61 + 2 * ((cgf s 2 11)).toNat) z8 s7 (fun s9 => ((0 ≤ (cgf s9 2 11) ∧ (cgf s9 2 11) < gln 81) → ∀ s12, s12 = cpa s9 81 (cgf s9 2 11) l1 → (C_emit7 (cgf s12 2 11) s12 (fun s14 => (∀ s17, s17 = cpf s14 2 11 (w32 ((cgf s14 2 11) + 1)) → (C_readAtom7z_140 s17 Q)))))))))))))
def C_readAtom7z (s : im_S) (Q : im_S → Prop) : Prop := (CV_readSum 0 0 s (fun s18 => (C_J0_indexOf_0f7a4_0_4v (c16 (cgf s18 2 3)) s18 (fun z22 s21 => ((0 ≤ z22 → (((cgf s21 2 11) < 10 → (C_step7v s21 (fun s27 => (CV_readSum 1 0 s27 (fun s29 => (C_slot7 0 s29 (fun z32 s31 => (C_slot7 1 s31 (fun z34 s33 => (C_addTo7 z32 z34 (-1) (cgf s21 2 2) s33 (fun s35 => (C_readAtom7z_79 z22 s35 Q)))))))))))) ∧ (¬ ((cgf s21 2 11) < 10) → (C_fail7 3 (cgf s21 2 2) s21 (fun s37 => (C_readAtom7z_79 z22 s37 Q)))))) ∧ (¬ (0 ≤ z22) → (C_fail7 2 (cgf s21 2 2) s21 (fun s39 => (C_readAtom7z_79 z22 s39 Q)))))))))
set_option maxRecDepth 16384 in
theorem c_readAtom7z (L : Nat) (ys : Nat → Int32) (d : Nat) (hS : RZ L ys d) (s : im_S) (hv : jI s) (Q : im_S → Prop) (hW : C_readAtom7z s Q) : pcV L ys (d + 1) 193 [(2, ((2 : Nat) : Int))] s (fun s9 => jI s9 ∧ Q s9) := by
  intro res hres
  refine pq_start_s (M := rm_p_X7_readAtom) (Q := (fun r : im_Re => r.1 = none ∧ (jI r.2 ∧ Q r.2))) om_X7_readAtom (fun N => ?_) res hres
  refine pq_w [(0, (2, ((2 : Nat) : Int)))] ⟨rfl, trivial⟩ ?_
  have J140 : ∀ N140 : Nat, N140 ≤ N → ∀ (s : im_S) (hv : jI s), C_readAtom7z_140 s Q → pq L ys d N140 rm_p_X7_readAtom (140, [], [], s) (fun r : im_Re => r.1 = none ∧ (jI r.2 ∧ Q r.2)) := by
    intro N140 hN140 s hv hW
    unfold C_readAtom7z_140 at hW
    exact pq_vret rfl ⟨rfl, hv, hW⟩
  have J79 : ∀ N79 : Nat, N79 ≤ N → ∀ (l1 : Int) (l1r : iR l1) (s : im_S) (hv : jI s), C_readAtom7z_79 l1 s Q → pq L ys d N79 rm_p_X7_readAtom (79, [(0, (2, ((2 : Nat) : Int))), (1, (0, l1))], [], s) (fun r : im_Re => r.1 = none ∧ (jI r.2 ∧ Q r.2)) := by
    intro N79 hN79 l1 l1r s hv hW
    unfold C_readAtom7z_79 at hW
    refine pq_l (pc' := 80) rfl rfl rfl rfl rfl ?_
    refine pq_gi (pc' := 83) rfl rfl rfl rfl rfl (fun r1 => ?_)
    refine pq_z_ne (pt := 140) (pc' := 86) rfl rfl rfl (fun c2 => ?_) (fun c2 => ?_)
    · have hW := hW.1 c2
      refine pq_w [] trivial ?_
      exact J140 N79 (by omega) s hv hW
    · have hW := hW.2 c2
      refine pq_l (pc' := 87) rfl rfl rfl rfl rfl ?_
      refine pq_gi (pc' := 90) rfl rfl rfl rfl rfl (fun r3 => ?_)
      refine pq_k (pc' := 92) (v := (0, 10)) rfl rfl rfl (fun _ => rfl) ?_
      refine pq_c_ge (pt := 140) (pc' := 95) rfl rfl rfl (fun c4 => ?_) (fun c4 => ?_)
      · have hW := hW.1 c4
        refine pq_w [] trivial ?_
        exact J140 N79 (by omega) s hv hW
      · have hW := hW.2 c4
        refine pq_l (pc' := 96) rfl rfl rfl rfl rfl ?_
        refine pq_gr (pc' := 99) (c := 60) (v := 60) rfl rfl rfl rfl rfl rfl hv ?_
        refine pq_l (pc' := 100) rfl rfl rfl rfl rfl ?_
        refine pq_gi (pc' := 103) rfl rfl rfl rfl rfl (fun r5 => ?_)
        refine pq_aa (pc' := 104) (b := 61) (k := 2) (n := 10) (m := 10) rfl rfl rfl rfl rfl hv (fun r6a r6b => ?_)
        refine pq_l (pc' := 105) rfl rfl rfl rfl rfl ?_
        refine pq_k (pc' := 106) (v := (0, 0)) rfl rfl rfl (fun _ => rfl) ?_
        refine pq_cVR (pc' := 109) rfl rfl rfl rfl rfl (c_slot7 L ys d s hv 0 (⟨by decide, by decide⟩ : iR 0) _ hW) (fun z8 s7 hr => ?_)
        obtain ⟨s7v, hW⟩ := hr
        refine pq_cVV (pc' := 112) rfl rfl rfl rfl rfl (c_copy6 L ys d s7 s7v (61 + 2 * ((cgf s 2 11)).toNat) z8 _ hW) (fun s9 hr => ?_)
        obtain ⟨s9v, hW⟩ := hr
        refine pq_l (pc' := 113) rfl rfl rfl rfl rfl ?_
        refine pq_gr (pc' := 116) (c := 81) (v := 81) rfl rfl rfl rfl rfl rfl s9v ?_
        refine pq_l (pc' := 117) rfl rfl rfl rfl rfl ?_
        refine pq_gi (pc' := 120) rfl rfl rfl rfl rfl (fun r11 => ?_)
        refine pq_l (pc' := 121) rfl rfl rfl rfl rfl ?_
        refine pq_is (pc' := 122) rfl rfl (by decide) (by decide) s9v (fun s12a s12b s12 s12e s12v => ?_)
        have hW := hW ⟨s12a, s12b⟩ s12 s12e
        refine pq_l (pc' := 123) rfl rfl rfl rfl rfl ?_
        refine pq_l (pc' := 124) rfl rfl rfl rfl rfl ?_
        refine pq_gi (pc' := 127) rfl rfl rfl rfl rfl (fun r13 => ?_)
        refine pq_cVV (pc' := 130) rfl rfl rfl rfl rfl (c_emit7 L ys d s12 s12v (cgf s12 2 11) r13 _ hW) (fun s14 hr => ?_)
        obtain ⟨s14v, hW⟩ := hr
        refine pq_l (pc' := 131) rfl rfl rfl rfl rfl ?_
        refine pq_x (pc' := 132) rfl rfl rfl (fun _ => rfl) ?_
        refine pq_gi (pc' := 135) rfl rfl rfl rfl rfl (fun r16 => ?_)
        refine pq_k (pc' := 136) (v := (0, 1)) rfl rfl rfl (fun _ => rfl) ?_
        refine pq_add (pc' := 137) rfl rfl ?_
        refine pq_pX (pc' := 140) rfl rfl rfl rfl (fun e => absurd e (by decide)) (fun e => absurd e (by decide)) s14v (fun s17 s17e s17v => ?_)
        have hW := hW s17 s17e
        refine pq_w [] trivial ?_
        exact J140 N79 (by omega) s17 s17v hW
  unfold C_readAtom7z at hW
  refine pq_l (pc' := 1) rfl rfl rfl rfl rfl ?_
  refine pq_k (pc' := 2) (v := (0, 0)) rfl rfl rfl (fun _ => rfl) ?_
  refine pq_k (pc' := 3) (v := (0, 0)) rfl rfl rfl (fun _ => rfl) ?_
  refine pq_cVV (pc' := 6) rfl rfl rfl rfl rfl (hS.2.2.2.2.1 s hv 0 (⟨by decide, by decide⟩ : iR 0) 0 (⟨by decide, by decide⟩ : iR 0) _ hW) (fun s18 hr => ?_)
  obtain ⟨s18v, hW⟩ := hr
  refine pq_k (pc' := 8) (v := (4, 4)) rfl rfl rfl (fun _ => rfl) ?_
  refine pq_l (pc' := 9) rfl rfl rfl rfl rfl ?_
  refine pq_gi (pc' := 12) rfl rfl rfl rfl rfl (fun r20 => ?_)
  refine pq_i2c (pc' := 13) rfl rfl ?_
  refine pq_cFI (pc' := 16) rfl rfl rfl rfl rfl (c_J0_indexOf_0f7a4_0_4v L ys d s18 s18v (c16 (cgf s18 2 3)) (c16_r _) _ hW) (fun z22 s21 hr => ?_)
  obtain ⟨s21v, z22r, hW⟩ := hr
  refine pq_s (pc' := 17) rfl rfl rfl rfl rfl ?_
  refine pq_l (pc' := 18) rfl rfl rfl rfl rfl ?_
  refine pq_gi (pc' := 21) rfl rfl rfl rfl rfl (fun r23 => ?_)
  refine pq_s (pc' := 22) rfl rfl rfl rfl rfl ?_
  refine pq_l (pc' := 23) rfl rfl rfl rfl rfl ?_
  refine pq_z_ge (pt := 35) (pc' := 26) rfl rfl rfl (fun c24 => ?_) (fun c24 => ?_)
  · have hW := hW.1 c24
    refine pq_l (pc' := 36) rfl rfl rfl rfl rfl ?_
    refine pq_gi (pc' := 39) rfl rfl rfl rfl rfl (fun r25 => ?_)
    refine pq_k (pc' := 41) (v := (0, 10)) rfl rfl rfl (fun _ => rfl) ?_
    refine pq_c_lt (pt := 53) (pc' := 44) rfl rfl rfl (fun c26 => ?_) (fun c26 => ?_)
    · have hW := hW.1 c26
      refine pq_l (pc' := 54) rfl rfl rfl rfl rfl ?_
      refine pq_cVV (pc' := 57) rfl rfl rfl rfl rfl (c_step7v L ys d s21 s21v  _ hW) (fun s27 hr => ?_)
      obtain ⟨s27v, hW⟩ := hr
      refine pq_l (pc' := 58) rfl rfl rfl rfl rfl ?_
      refine pq_k (pc' := 59) (v := (0, 1)) rfl rfl rfl (fun _ => rfl) ?_
      refine pq_k (pc' := 60) (v := (0, 0)) rfl rfl rfl (fun _ => rfl) ?_
      refine pq_cVV (pc' := 63) rfl rfl rfl rfl rfl (hS.2.2.2.2.1 s27 s27v 1 (⟨by decide, by decide⟩ : iR 1) 0 (⟨by decide, by decide⟩ : iR 0) _ hW) (fun s29 hr => ?_)
      obtain ⟨s29v, hW⟩ := hr
      refine pq_l (pc' := 64) rfl rfl rfl rfl rfl ?_
      refine pq_l (pc' := 65) rfl rfl rfl rfl rfl ?_
      refine pq_k (pc' := 66) (v := (0, 0)) rfl rfl rfl (fun _ => rfl) ?_
      refine pq_cVR (pc' := 69) rfl rfl rfl rfl rfl (c_slot7 L ys d s29 s29v 0 (⟨by decide, by decide⟩ : iR 0) _ hW) (fun z32 s31 hr => ?_)
      obtain ⟨s31v, hW⟩ := hr
      refine pq_l (pc' := 70) rfl rfl rfl rfl rfl ?_
      refine pq_k (pc' := 71) (v := (0, 1)) rfl rfl rfl (fun _ => rfl) ?_
      refine pq_cVR (pc' := 74) rfl rfl rfl rfl rfl (c_slot7 L ys d s31 s31v 1 (⟨by decide, by decide⟩ : iR 1) _ hW) (fun z34 s33 hr => ?_)
      obtain ⟨s33v, hW⟩ := hr
      refine pq_k (pc' := 75) (v := (0, (-1))) rfl rfl rfl (fun _ => rfl) ?_
      refine pq_l (pc' := 76) rfl rfl rfl rfl rfl ?_
      refine pq_cVV (pc' := 79) rfl rfl rfl rfl rfl (c_addTo7 L ys d s33 s33v z32 z34 (-1) (⟨by decide, by decide⟩ : iR (-1)) (cgf s21 2 2) r23 _ hW) (fun s35 hr => ?_)
      obtain ⟨s35v, hW⟩ := hr
      refine pq_w [(0, (2, ((2 : Nat) : Int))), (1, (0, z22))] ⟨rfl, rfl, trivial⟩ ?_
      exact J79 N (by omega) z22 z22r s35 s35v hW
    · have hW := hW.2 c26
      refine pq_l (pc' := 45) rfl rfl rfl rfl rfl ?_
      refine pq_k (pc' := 46) (v := (0, 3)) rfl rfl rfl (fun _ => rfl) ?_
      refine pq_l (pc' := 47) rfl rfl rfl rfl rfl ?_
      refine pq_cVV (pc' := 50) rfl rfl rfl rfl rfl (c_fail7 L ys d s21 s21v 3 (⟨by decide, by decide⟩ : iR 3) (cgf s21 2 2) r23 _ hW) (fun s37 hr => ?_)
      obtain ⟨s37v, hW⟩ := hr
      refine pq_goto (pc' := 79) rfl rfl ?_
      refine pq_w [(0, (2, ((2 : Nat) : Int))), (1, (0, z22))] ⟨rfl, rfl, trivial⟩ ?_
      exact J79 N (by omega) z22 z22r s37 s37v hW
  · have hW := hW.2 c24
    refine pq_l (pc' := 27) rfl rfl rfl rfl rfl ?_
    refine pq_k (pc' := 28) (v := (0, 2)) rfl rfl rfl (fun _ => rfl) ?_
    refine pq_l (pc' := 29) rfl rfl rfl rfl rfl ?_
    refine pq_cVV (pc' := 32) rfl rfl rfl rfl rfl (c_fail7 L ys d s21 s21v 2 (⟨by decide, by decide⟩ : iR 2) (cgf s21 2 2) r23 _ hW) (fun s39 hr => ?_)
    obtain ⟨s39v, hW⟩ := hr
    refine pq_goto (pc' := 79) rfl rfl ?_
    refine pq_w [(0, (2, ((2 : Nat) : Int))), (1, (0, z22))] ⟨rfl, rfl, trivial⟩ ?_
    exact J79 N (by omega) z22 z22r s39 s39v hW
