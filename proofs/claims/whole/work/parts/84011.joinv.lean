/-! join BY VALUE -/
/-- the bases so far (the first k of the old nb are done, t came new): each within an old one, the old ones their products; F the product of those marked, and of Fc -/
def jz (b : Nat → List Int) (nb : Nat) (F : List Int) (k t : Nat) (b' : Nat → List Int) (Fc : List Int) : Prop := ∃ og Y : Nat → Nat, (∀ i, i < nb → og i = i) ∧ (∀ i, i < nb + t → og i < nb ∧ dvz (b' i) (b (og i))) ∧ (∀ (X : Nat → Nat) (x : Rat), PRd b' (fun i => X (og i)) x (nb + t) = PRd b X x nb) ∧ (∀ i, k ≤ i → i < nb → Y i = 0) ∧ (∀ i, i < k ∨ (nb ≤ i ∧ i < nb + t) → (Y i = 1 ∧ dvz (b' i) F) ∨ (Y i = 0 ∧ cop (b' i) F)) ∧ ∀ x : Rat, pev F x = PRd b' Y x (nb + t) * pev Fc x
/-- what join leaves -/
def jo (b : Nat → List Int) (nb : Nat) (F : List Int) (b' : Nat → List Int) (N' : Nat) : Prop := ∃ (og Y : Nat → Nat) (N : Nat), N ≤ N' ∧ N' ≤ N + 1 ∧ (∀ i, i < N → og i < nb ∧ dvz (b' i) (b (og i))) ∧ (∀ (X : Nat → Nat) (x : Rat), PRd b' (fun i => X (og i)) x N = PRd b X x nb) ∧ (∀ i, i < N' → (Y i = 1 ∧ dvz (b' i) F) ∨ (Y i = 0 ∧ cop (b' i) F)) ∧ (∀ i, N ≤ i → i < N' → Y i = 1) ∧ ∀ x : Rat, pev F x = PRd b' Y x N'
theorem jz_0 {b : Nat → List Int} {nb : Nat} {F : List Int} : jz b nb F 0 0 b F := by
  refine ⟨fun i => i, fun _ => 0, fun _ _ => rfl, fun i hi => ⟨hi, dvz_rfl _⟩, fun X x => rfl, fun _ _ _ => rfl, fun i hi => by omega, fun x => ?_⟩
  rw [PRd_1 (fun e _ => rfl), Rat.one_mul]
theorem pcp_s {b : Nat → List Int} {n i j : Nat} (h : pcp b n) (hi : i < n) (hj : j < n) (ij : i ≠ j) : cop (b i) (b j) := by
  rcases Nat.lt_or_gt_of_ne ij with q | q
  · exact h i j q hj
  · exact cop_sym (h j i q hi)
theorem jc {D F Fc : List Int} {b : Nat → List Int} {Y : Nat → Nat} {n : Nat} (h : ∀ i, i < n → 1 ≤ Y i → cop D (b i)) (hc : cop D Fc) (e : ∀ x : Rat, pev F x = PRd b Y x n * pev Fc x) : cop D F := by
  obtain ⟨L, hL⟩ := PRd_list b Y n
  exact cop_ml (cop_PR n L h hL) hc (fun x => by rw [e x, hL x])
theorem jz_skip {b b' : Nat → List Int} {nb k t : Nat} {F Fc : List Int} (h : jz b nb F k t b' Fc) (hk : k < nb) (hp : pcp b' (nb + t)) (hc : cop (b' k) Fc) : jz b nb F (k + 1) t b' Fc := by
  obtain ⟨og, Y, h1, h2, h3, h4, h5, h6⟩ := h
  have yk := h4 k (Nat.le_refl _) hk
  refine ⟨og, Y, h1, h2, h3, fun i i1 i2 => h4 i (by omega) i2, fun i hi => ?_, h6⟩
  by_cases e : i = k
  · subst e
    refine Or.inr ⟨yk, jc (fun j hj y => pcp_s hp (by omega) hj (fun q => ?_)) hc h6⟩
    rw [← q] at y; omega
  · exact h5 i (by omega)
theorem jz_cut {b b' b1 : Nat → List Int} {nb k t : Nat} {F Fc H O f2 : List Int} (h : jz b nb F k t b' Fc) (hk : k < nb) (hp : pcp b' (nb + t)) (e1 : ∀ x : Rat, pev (b' k) x = pev H x * pev O x) (eO : ∀ x : Rat, pev O x = 1) (e2 : ∀ x : Rat, pev Fc x = pev H x * pev f2 x) (dF : dvz Fc F) (hH : b1 k = H) (ho : ∀ i, i ≠ k → b1 i = b' i) : jz b nb F (k + 1) t b1 f2 := by
  obtain ⟨og, Y, h1, h2, h3, h4, h5, h6⟩ := h
  have yk := h4 k (Nat.le_refl _) hk
  have pe : ∀ (i : Nat) (x : Rat), pev (b1 i) x = pev (b' i) x := fun i x => by
    by_cases e : i = k
    · rw [e, hH, e1 x, eO x, Rat.mul_one]
    · rw [ho i e]
  refine ⟨og, fun i => if i = k then 1 else Y i, h1, fun i hi => ⟨(h2 i hi).1, ?_⟩, fun X x => ?_, fun i i1 i2 => ?_, fun i hi => ?_, fun x => ?_⟩
  · by_cases e : i = k
    · subst e
      rw [hH]
      exact dvz_trans ⟨O, e1⟩ (h2 i hi).2
    · rw [ho i e]; exact (h2 i hi).2
  · rw [PRd_co (p := b') (m := fun i => X (og i)) (fun e _ => ⟨pe e x, rfl⟩)]
    exact h3 X x
  · try dsimp only
    rw [if_neg (by omega)]; exact h4 i (by omega) i2
  · try dsimp only
    by_cases e : i = k
    · subst e
      rw [if_pos rfl, hH]
      exact Or.inl ⟨rfl, dvz_trans ⟨f2, e2⟩ dF⟩
    · rw [if_neg e, ho i e]; exact h5 i (by omega)
  · have z := PRd_ch (p' := b') (m' := Y) (p := b1) (m := fun i => if i = k then 1 else Y i) (x := x) (q := pev H x) (e0 := k) (by
      try dsimp only
      rw [yk, if_pos rfl, hH, Rat.pow_zero, Rat.pow_succ, Rat.pow_zero]) (n := nb + t) (by omega) (fun e _ h => ⟨by rw [ho e h], by (try dsimp only); rw [if_neg h]⟩)
    rw [← z, h6 x, e2 x]
    grind
theorem jz_split {b b' b2 : Nat → List Int} {nb k t : Nat} {F Fc H O f2 : List Int} (h : jz b nb F k t b' Fc) (hk : k < nb) (hp : pcp b' (nb + t)) (e1 : ∀ x : Rat, pev (b' k) x = pev H x * pev O x) (sq : sqf (b' k)) (cO : cop O f2) (e2 : ∀ x : Rat, pev Fc x = pev H x * pev f2 x) (dF : dvz Fc F) (hH : b2 k = H) (hO : b2 (nb + t) = O) (ho : ∀ i, i ≠ k → i ≠ nb + t → b2 i = b' i) : jz b nb F (k + 1) (t + 1) b2 f2 := by
  obtain ⟨og, Y, h1, h2, h3, h4, h5, h6⟩ := h
  have yk := h4 k (Nat.le_refl _) hk
  have ogk := h1 k hk
  have dO : dvz O (b' k) := ⟨H, fun x => by rw [e1 x]; grind⟩
  refine ⟨fun i => if i = nb + t then k else og i, fun i => if i = k then 1 else if i = nb + t then 0 else Y i, fun i hi => ?_, fun i hi => ?_, fun X x => ?_, fun i i1 i2 => ?_, fun i hi => ?_, fun x => ?_⟩
  · try dsimp only
    rw [if_neg (by omega)]; exact h1 i hi
  · try dsimp only
    by_cases e : i = nb + t
    · rw [if_pos e, e, hO]
      refine ⟨hk, ?_⟩
      have z := (h2 k (by omega)).2
      rw [ogk] at z
      exact dvz_trans dO z
    · rw [if_neg e]
      refine ⟨(h2 i (by omega)).1, ?_⟩
      by_cases e' : i = k
      · subst e'
        rw [hH]
        exact dvz_trans ⟨O, e1⟩ (h2 i (by omega)).2
      · rw [ho i e' e]; exact (h2 i (by omega)).2
  · rw [← h3 X x]
    refine PRd_split (e0 := k) (n := nb + t) (by omega) (by rw [hH, hO, e1 x]; grind) ?_ ?_ (fun e he h => ⟨by rw [ho e h (by omega)], ?_⟩)
    · (try dsimp only); rw [if_neg (by omega)]
    · (try dsimp only); rw [if_pos rfl, ogk]
    · (try dsimp only); rw [if_neg (by omega)]
  · try dsimp only
    rw [if_neg (by omega), if_neg (by omega)]; exact h4 i (by omega) i2
  · try dsimp only
    by_cases e : i = k
    · subst e
      rw [if_pos rfl, hH]
      exact Or.inl ⟨rfl, dvz_trans ⟨f2, e2⟩ dF⟩
    · rw [if_neg e]
      by_cases e' : i = nb + t
      · rw [if_pos e', e', hO]
        refine Or.inr ⟨rfl, jc (fun j hj y => ?_) (cop_ml (cop_sym (cop_sq sq e1)) cO e2) h6⟩
        refine cop_sym (cop_dv (pcp_s hp hj (by omega) (fun q => ?_)) dO)
        rw [q] at y; omega
      · rw [if_neg e', ho i e e']; exact h5 i (by omega)
  · have z := PRd_ch (p' := b') (m' := Y) (p := b2) (m := fun i => if i = k then 1 else if i = nb + t then 0 else Y i) (x := x) (q := pev H x) (e0 := k) (by
      try dsimp only
      rw [yk, if_pos rfl, hH, Rat.pow_zero, Rat.pow_succ, Rat.pow_zero]) (n := nb + t) (by omega) (fun e he h => ⟨by rw [ho e h (by omega)], by (try dsimp only); rw [if_neg h, if_neg (by omega)]⟩)
    show pev F x = PRd b2 (fun i => if i = k then 1 else if i = nb + t then 0 else Y i) x (nb + t) * pev (b2 (nb + t)) x ^ (if nb + t = k then 1 else if nb + t = nb + t then 0 else Y (nb + t)) * pev f2 x
    rw [if_neg (by omega), if_pos rfl, Rat.pow_zero, ← z, h6 x, e2 x]
    grind
theorem jz_e1 {b b' : Nat → List Int} {nb k t : Nat} {F Fc : List Int} (h : jz b nb F k t b' Fc) (hp : pcp b' (nb + t)) (e1 : ∀ x : Rat, pev Fc x = 1) : jo b nb F b' (nb + t) := by
  obtain ⟨og, Y, h1, h2, h3, h4, h5, h6⟩ := h
  refine ⟨og, Y, nb + t, Nat.le_refl _, by omega, h2, h3, fun i hi => ?_, fun i i1 i2 => by omega, fun x => by rw [h6 x, e1 x, Rat.mul_one]⟩
  by_cases c : i < k ∨ (nb ≤ i ∧ i < nb + t)
  · exact h5 i c
  · have yi := h4 i (by omega) (by omega)
    refine Or.inr ⟨yi, jc (fun j hj y => pcp_s hp hi hj (fun q => ?_)) (cop_eq (cop_o (b' i)) (fun x => by rw [e1 x, pev_c1])) h6⟩
    rw [← q] at y; omega
theorem jz_e2 {b b' b2 : Nat → List Int} {nb t : Nat} {F Fc : List Int} (h : jz b nb F nb t b' Fc) (hc : ∀ i, i < nb + t → cop (b' i) Fc) (dF : dvz Fc F) (hF : b2 (nb + t) = Fc) (ho : ∀ i, i ≠ nb + t → b2 i = b' i) : jo b nb F b2 (nb + t + 1) := by
  obtain ⟨og, Y, h1, h2, h3, h4, h5, h6⟩ := h
  refine ⟨og, fun i => if i = nb + t then 1 else Y i, nb + t, by omega, Nat.le_refl _, fun i hi => by rw [ho i (by omega)]; exact h2 i hi, fun X x => ?_, fun i hi => ?_, fun i i1 i2 => if_pos (by omega), fun x => ?_⟩
  · rw [← h3 X x]
    exact PRd_co (fun e he => ⟨by rw [ho e (by omega)], rfl⟩)
  · try dsimp only
    by_cases e : i = nb + t
    · rw [if_pos e, e, hF]; exact Or.inl ⟨rfl, dF⟩
    · rw [if_neg e, ho i e]; exact h5 i (by omega)
  · rw [PRd_new (p := b') (m := Y) (p' := b2) (m' := fun i => if i = nb + t then 1 else Y i) (n := nb + t) (k := 1) (if_pos rfl) (fun e he => ⟨by rw [ho e (by omega)], if_neg (by omega)⟩), h6 x, hF, Rat.pow_succ, Rat.pow_zero]
    grind
theorem join_135v {s s2 : im_S} {f : Int} {F Fc : List Int} {N nb : Nat} {b b' : Nat → List Int} {Q : im_S → Prop} (h0 : 0 ≤ wgf s 24 ∧ wgf s 24 ≤ 9000) (h0' : 0 ≤ wgf s 28 ∧ wgf s 28 ≤ 240) (F9 : F.length ≤ 9) (hdeg : dsm b nb + (F.length - 1) ≤ 80) (hs : pw pF2 pR2 (wgf s 24) (wgf s 28) s s2) (hf : pol s2 f Fc) (hff : wgf s 28 ≤ f ∨ (Fc = F ∧ pol s f F)) (fF : fct Fc) (qF : sqf Fc) (dF : ∃ O, ow O ∧ dvz Fc O) (hl : Fc.length ≤ F.length) (h34 : wgf s2 34 = N) (hN : N ≤ 80) (hbe : ∀ i : Nat, i < N → be s2 i (b' i)) (hpt : ∀ i : Nat, i < N → wga s2 602 i < wgf s 28 → pol s (wga s2 602 i) (b' i)) (hpc : pcp b' N) (hcp : 2 ≤ Fc.length → ∀ i : Nat, i < N → cop (b' i) Fc) (hds : dsm b' N + Fc.length ≤ dsm b nb + F.length) (hcn : cn s2 (wgf s 28) N ≤ 2 * (F.length - Fc.length)) (hj1 : Fc.length = 1 → jo b nb F b' N) (hj2 : 2 ≤ Fc.length → ∀ b'' : Nat → List Int, b'' N = Fc → (∀ k, k ≠ N → b'' k = b' k) → jo b nb F b'' (N + 1)) (hQ : ∀ s' N' b', pw pF2 pR2 (wgf s 24) (wgf s 28) s s' → bi s' N' b' → dsm b' N' ≤ dsm b nb + (F.length - 1) → wgf s 28 ≤ wgf s' 28 → wgf s' 28 ≤ wgf s 28 + 2 * (F.length - 1 : Nat) → wgf s 24 ≤ wgf s' 24 → wgf s' 24 ≤ wgf s 24 + 72 * (F.length - 1 : Nat) → jo b nb F b' N' → Q s') : W_join_135 (wgf s 28) (wgf s 24) f s2 Q := by
  unfold W_join_135
  have f5 := hf.2.2.2.2.1
  have f1 := hf.1
  have f2 := hf.2.1
  have f3 := hf.2.2.1
  have Fc1 := fF.1.1
  refine ⟨⟨f1, by omega⟩, fun c => ?_, fun c => ⟨⟨by omega, by omega⟩, fun s3 e3 => ⟨?_, fun s4 e4 => ?_⟩⟩⟩
  · refine join_166 hs h34 (by omega) ⟨h0.1, by omega⟩ ⟨h0'.1, by omega⟩ (by omega) (fun i hi => (hbe i hi).2) (fun i hi => ⟨(hbe i hi).1, hpt i hi⟩) (fun s' d1 d2 d3 d4 d5 d6 => hQ s' N b' d1 ⟨d2, fun i hi => ⟨d6 i hi, (hbe i hi).2⟩, hpc⟩ (by omega) (by omega) (by omega) d4 (by omega) (hj1 (by omega)))
  · rw [e3, wf_pa]; exact ⟨by omega, by omega⟩
  · have c2 : 2 ≤ Fc.length := by omega
    rw [h34] at e3
    have w4 : pw pF2 pR2 (wgf s 24) (wgf s 28) s s4 := by rw [e4, e3]; exact pw_pf (pw_pa hs (by decide)) (Or.inr (Or.inr (Or.inr (by decide))))
    have t34 : wgf s4 34 = ((N + 1 : Nat) : Int) := by rw [e4, wf_same, e3, wf_pa, h34]; omega
    have pl : ∀ (g : Int) (P : List Int), pol s2 g P → pol s4 g P := fun g P h => by
      rw [e4, e3]; exact pol_pf (by decide) (by decide) (pol_pa (by decide) (by decide) (by decide) h)
    have q4 : ∀ i : Int, wga s4 602 i = wga (wpa s2 602 (N : Int) f) 602 i := fun i => by rw [e4, wg_pf, e3]
    have qo : ∀ i : Nat, i < N → wga s4 602 i = wga s2 602 i := fun i hi => by rw [q4, wg_ne (by omega) (by omega) (by omega)]
    have qn : wga s4 602 (N : Int) = f := by rw [q4, wg_same]
    have cn4 : cn s4 (wgf s 28) (N + 1) ≤ 2 * (F.length - Fc.length) + 1 := by
      have a : cn s4 (wgf s 28) N = cn s2 (wgf s 28) N := cn_co qo
      show cn s4 (wgf s 28) N + (if wgf s 28 ≤ wga s4 602 (N : Int) then 1 else 0) ≤ _
      rw [a]
      split <;> omega
    obtain ⟨b'', hn'', ho''⟩ : ∃ b'' : Nat → List Int, b'' N = Fc ∧ ∀ k, k ≠ N → b'' k = b' k := ⟨fun k => if k = N then Fc else b' k, if_pos rfl, fun k hk => if_neg hk⟩
    have bsF : bs Fc := ⟨fF, qF, c2, dF⟩
    have pc'' : pcp b'' (N + 1) := fun i j ij jN => by
      by_cases e : j = N
      · subst e
        rw [hn'', ho'' i (by omega)]
        exact hcp c2 i (by omega)
      · rw [ho'' i (by omega), ho'' j e]
        exact hpc i j ij (by omega)
    have ds'' : dsm b'' (N + 1) = dsm b' N + (Fc.length - 1) := by
      show dsm b'' N + ((b'' N).length - 1) = _
      rw [hn'', dsm_co (c := b') (d := b'') (fun k hk => ho'' k (by omega))]
    have bs'' : ∀ i : Nat, i < N + 1 → bs (b'' i) := fun i hi => by
      by_cases e : i = N
      · subst e; rw [hn'']; exact bsF
      · rw [ho'' i e]; exact (hbe i (by omega)).2
    refine join_166 (b := b'') w4 t34 (by omega) ⟨h0.1, by omega⟩ ⟨h0'.1, by omega⟩ (by omega) bs'' (fun i hi => ?_) (fun s' d1 d2 d3 d4 d5 d6 => hQ s' (N + 1) b'' d1 ⟨d2, fun i hi => ⟨d6 i hi, bs'' i hi⟩, pc''⟩ (by omega) (by omega) (by omega) d4 (by omega) (hj2 c2 b'' hn'' ho''))
    by_cases e : i = N
    · subst e
      rw [hn'', qn]
      refine ⟨pl _ _ hf, fun q => ?_⟩
      rcases hff with x | x
      · omega
      · rw [x.1]; exact x.2
    · rw [ho'' i e, qo i (by omega)]
      exact ⟨pl _ _ (hbe i (by omega)).1, hpt i (by omega)⟩
theorem join_okv {s : im_S} {f : Int} {F : List Int} {nb : Nat} {b : Nat → List Int} {Q : im_S → Prop} (h0 : 0 ≤ wgf s 24 ∧ wgf s 24 ≤ 9000) (h0' : 0 ≤ wgf s 28 ∧ wgf s 28 ≤ 240) (hf : pol s f F) (oF : ow F) (hbi : bi s nb b) (hdeg : dsm b nb + (F.length - 1) ≤ 80) (hQ : ∀ s' N' b', pw pF2 pR2 (wgf s 24) (wgf s 28) s s' → bi s' N' b' → dsm b' N' ≤ dsm b nb + (F.length - 1) → wgf s 28 ≤ wgf s' 28 → wgf s' 28 ≤ wgf s 28 + 2 * (F.length - 1 : Nat) → wgf s 24 ≤ wgf s' 24 → wgf s' 24 ≤ wgf s 24 + 72 * (F.length - 1 : Nat) → jo b nb F b' N' → Q s') : W_join f s Q := by
  unfold W_join
  obtain ⟨b1, b2, b3⟩ := hbi
  have F9 := oF.1.1.2.1
  have nbd : nb ≤ dsm b nb := dsm_n (fun k hk => (b2 k hk).2.2.2.1)
  have F2 := oF.2.2.1
  have low : ∀ i : Nat, i < nb → wga s 602 i < wgf s 28 := fun i hi => (b2 i hi).1.2.1
  refine ⟨fun a => ∃ (Fc : List Int) (t k : Nat) (b' : Nat → List Int), a.2.1 = k ∧ k ≤ nb ∧ pw pF2 pR2 (wgf s 24) (wgf s 28) s a.2.2 ∧ wgf s 24 ≤ wgf a.2.2 24 ∧ wgf s 28 ≤ wgf a.2.2 28 ∧ pol a.2.2 a.1 Fc ∧ (wgf s 28 ≤ a.1 ∨ (Fc = F ∧ pol s a.1 F)) ∧ fct Fc ∧ sqf Fc ∧ dvz Fc F ∧ Fc.length ≤ F.length ∧ wgf a.2.2 34 = ((nb + t : Nat) : Int) ∧ (∀ i : Nat, i < nb + t → be a.2.2 i (b' i)) ∧ (∀ i : Nat, i < nb + t → wga a.2.2 602 i < wgf s 28 → pol s (wga a.2.2 602 i) (b' i)) ∧ pcp b' (nb + t) ∧ (∀ i : Nat, k ≤ i → i < nb → b' i = b i) ∧ (∀ i : Nat, i < k ∨ (nb ≤ i ∧ i < nb + t) → cop (b' i) Fc) ∧ dsm b' (nb + t) + Fc.length ≤ dsm b nb + F.length ∧ cn a.2.2 (wgf s 28) (nb + t) ≤ 2 * (F.length - Fc.length) ∧ wgf a.2.2 24 ≤ wgf s 24 + 5834 * (dsm b k : Int) + 8100 * ((F.length : Int) - Fc.length) ∧ wgf a.2.2 28 ≤ wgf s 28 + 10 * k + 4 * ((F.length : Int) - Fc.length) ∧ jz b nb F k t b' Fc, fun a => ((nb : Int) - a.2.1).toNat, ⟨F, 0, 0, b, rfl, by omega, pw_rfl, Int.le_refl _, Int.le_refl _, hf, Or.inr ⟨rfl, hf⟩, oF.1, oF.2.1, dvz_rfl F, Nat.le_refl _, b1, b2, fun i hi _ => (b2 i hi).1, b3, fun _ _ _ => rfl, fun i hi => by omega, Nat.le_refl _, ?_, ?_, by (try dsimp only); omega, jz_0⟩, ?_⟩
  · have z : cn s (wgf s 28) (nb + 0) = 0 := cn_z (fun i hi => low i hi)
    show cn s (wgf s 28) (nb + 0) ≤ _
    omega
  · show wgf s 24 ≤ wgf s 24 + 5834 * ((0 : Nat) : Int) + 8100 * ((F.length : Int) - F.length)
    omega
  rintro ⟨fc, k0, s2⟩ ⟨Fc, t, k, b', i1, i2, i3, i4, i5, i6, i7, i8, i9, i10, i11, i12, i13, i14, i15, i16, i17, i18, i19, i20, i21, i22⟩
  dsimp only at i1 i2 i3 i4 i5 i6 i7 i8 i9 i10 i11 i12 i13 i14 i15 i16 i17 i18 i19 i20 i21 ⊢
  subst i1
  have f1 := i6.1
  have f2 := i6.2.1
  have f3 := i6.2.2.1
  have f5 := i6.2.2.2.2.1
  have gF := i8.1
  have Fc1 := gF.1
  have nbt : nb + t ≤ dsm b' (nb + t) := dsm_n (fun i hi => (i13 i hi).2.2.2.1)
  have own : ∃ O, ow O ∧ dvz Fc O := ⟨F, oF, i10⟩
  rw [b1]
  unfold W_join_22
  have goal135 : (2 ≤ Fc.length → k = nb ∧ ∀ i : Nat, i < nb + t → cop (b' i) Fc) → W_join_135 (wgf s 28) (wgf s 24) fc s2 Q := fun hc =>
    join_135v (s := s) (F := F) (b := b) (nb := nb) h0 h0' F9 hdeg i3 i6 i7 i8 i9 own i11 i12 (by omega) i13 i14 i15 (fun q => (hc q).2) i18 i19 (fun q => jz_e1 i22 i15 (fun x => gd_one gF q x)) (fun q b'' h1 h2 => jz_e2 (by have z := i22; rw [(hc q).1] at z; exact z) (hc q).2 i10 h1 h2) hQ
  refine ⟨fun c => goal135 (fun _ => ⟨by omega, fun i hi => i17 i (by omega)⟩), fun c => ⟨⟨f1, by omega⟩, fun c1 => goal135 (fun q => by omega), fun c1 => ⟨⟨by omega, by omega⟩, ?_⟩⟩⟩
  have hk : k < nb := by omega
  have Fc2 : 2 ≤ Fc.length := by omega
  obtain ⟨pk, bk⟩ := i13 k (by omega)
  have ebk := i16 k (Nat.le_refl _) hk
  have gP := bk.1.1
  have ctd := ct_d (b' k).length (by have := gP.2.1; omega) Fc.length (by have := gF.2.1; omega)
  have P2 := bk.2.2.1
  have ctd2 := ctd.2.1 P2
  have dk : dsm b (k + 1) = dsm b k + ((b' k).length - 1) := by
    show dsm b k + ((b k).length - 1) = _
    rw [ebk]
  have dm := dsm_mo (c := b) (n := k + 1) (m := nb - (k + 1))
  rw [show k + 1 + (nb - (k + 1)) = nb by omega] at dm
  have Fc9 := gF.2.1
  refine common2_gcd pk i6 gP.1 gF.1 gP.2.2.1 gF.2.2.1 gP.2.2.2.2 gF.2.2.2.2 (fct_pab bk.1) (fct_pab i8) (by omega) (by omega) (by omega) (fun h s3 H a1 a2 a3 a4 a5 a6 => ?_)
  have a13 := a1.2.2.1
  have a14 := a1.2.2.2
  have gH : gd H := gcdof_gd a5 gP
  have H1 := gH.1
  have a45 := a4.2.2.2.2.1
  have a42 := a4.2.1
  have a43 := a4.2.2.1
  have qHP : qd H (b' k) := a5.2.2.2.2.1
  have qHF : qd H Fc := a5.2.2.2.2.2.1
  have lHF := qd_len qHF gH.2.2.1 gH.1 gF.2.2.1 gF.1
  have w3 : pw pF2 pR2 (wgf s 24) (wgf s 28) s s3 := pw_tr i3 (ps_pw a1 i4 i5)
  have q3 : ∀ i : Int, wga s3 602 i = wga s2 602 i := fun i => ps_r a1 (by decide) (by decide) (by decide)
  have t34 : wgf s3 34 = ((nb + t : Nat) : Int) := by rw [ps_f a1 (by decide) (by decide) (by decide)]; exact i12
  have be3 : ∀ i : Nat, i < nb + t → be s3 i (b' i) := fun i hi => ⟨by rw [q3]; exact ps_pol a1 (by omega) (i13 i hi).1, (i13 i hi).2⟩
  have cn3 : ∀ n : Nat, cn s3 (wgf s 28) n = cn s2 (wgf s 28) n := fun n => cn_co (fun i _ => q3 i)
  have f3' : pol s3 fc Fc := ps_pol a1 (by omega) i6
  refine ⟨⟨a4.1, by omega⟩, fun c2 => ?_, fun c2 => ⟨⟨by omega, by omega⟩, ?_⟩⟩
  · have lH : H.length = 1 := by omega
    have cpk := cop_1 a5 lH
    unfold W_join_129
    refine ⟨⟨by omega, by omega⟩, ⟨Fc, t, k + 1, b', by (try dsimp only); omega, by omega, w3, by (try dsimp only); omega, by (try dsimp only); omega, f3', i7, i8, i9, i10, i11, t34, be3, fun i hi q => ?_, i15, fun i h1 h2 => i16 i (by omega) h2, fun i hi => ?_, i18, ?_, ?_, ?_, jz_skip i22 hk i15 cpk⟩, by (try dsimp only); omega⟩
    · rw [q3] at q ⊢
      exact i14 i hi q
    · by_cases e : i = k
      · rw [e]; exact cpk
      · exact i17 i (by omega)
    · (try dsimp only); rw [cn3]; exact i19
    · (try dsimp only); omega
    · (try dsimp only); omega
  · have lH : 2 ≤ H.length := by omega
    rw [q3]
    refine share_fc (by rw [← q3]; exact (be3 k (by omega)).1) a4 bk.1 gH qHP (by omega) (by omega) (by omega) (fun s4 O d1 d2 d3 d4 d5 d6 d7 => ⟨⟨by omega, by omega⟩, fun s5 e5 => ⟨⟨d3.1, by omega⟩, ?_⟩⟩)
    have d13 := d1.2.2.1
    have d35 := d3.2.2.2.2.1
    have w4 : pw pF2 pR2 (wgf s 24) (wgf s 28) s s4 := pw_tr w3 (ps_pw d1 (by omega) (by omega))
    have q4 : ∀ i : Int, wga s4 602 i = wga s2 602 i := fun i => by rw [ps_r d1 (by decide) (by decide) (by decide)]; exact q3 i
    have bH : bs H := bs_dv bk gH (qd_dvz gH.2.2.2.2 qHP) lH
    have O1 := d4.1.1
    have dvO : dvz O (b' k) := ⟨H, fun x => by rw [d6 x]; grind⟩
    have dvH : dvz H (b' k) := ⟨O, d6⟩
    have pl5 : ∀ (g : Int) (P : List Int), pol s4 g P → pol s5 g P := fun g P w => by
      rw [e5]; exact pol_pa (by decide) (by decide) (by decide) w
    have deg5 : wga s5 598 (wgf s3 28 + 1) = (O.length : Int) - 1 := by rw [e5, wg_row (by decide)]; exact d35
    -- behind the last share
    have fin : ∀ (s6 : im_S) (t' : Nat) (b'' : Nat → List Int), pw pF2 pR2 (wgf s 24) (wgf s 28) s s6 → wgf s6 24 = wgf s4 24 → wgf s6 28 = wgf s4 28 → pol s6 fc Fc → pol s6 h H → wgf s6 34 = ((nb + t' : Nat) : Int) → (∀ i : Nat, i < nb + t' → be s6 i (b'' i)) → (∀ i : Nat, i < nb + t' → wga s6 602 i < wgf s 28 → pol s (wga s6 602 i) (b'' i)) → pcp b'' (nb + t') → (∀ i : Nat, k + 1 ≤ i → i < nb → b'' i = b i) → (∀ f2 : List Int, (∀ x : Rat, pev Fc x = pev H x * pev f2 x) → ∀ i : Nat, i < k + 1 ∨ (nb ≤ i ∧ i < nb + t') → cop (b'' i) f2) → dsm b'' (nb + t') = dsm b' (nb + t) → cn s6 (wgf s 28) (nb + t') ≤ cn s2 (wgf s 28) (nb + t) + 2 → (∀ f2 : List Int, (∀ x : Rat, pev Fc x = pev H x * pev f2 x) → jz b nb F (k + 1) t' b'' f2) → W_join_119 (fun c => (∃ (Fc : List Int) (t k : Nat) (b' : Nat → List Int), c.2.1 = k ∧ k ≤ nb ∧ pw pF2 pR2 (wgf s 24) (wgf s 28) s c.2.2 ∧ wgf s 24 ≤ wgf c.2.2 24 ∧ wgf s 28 ≤ wgf c.2.2 28 ∧ pol c.2.2 c.1 Fc ∧ (wgf s 28 ≤ c.1 ∨ (Fc = F ∧ pol s c.1 F)) ∧ fct Fc ∧ sqf Fc ∧ dvz Fc F ∧ Fc.length ≤ F.length ∧ wgf c.2.2 34 = ((nb + t : Nat) : Int) ∧ (∀ i : Nat, i < nb + t → be c.2.2 i (b' i)) ∧ (∀ i : Nat, i < nb + t → wga c.2.2 602 i < wgf s 28 → pol s (wga c.2.2 602 i) (b' i)) ∧ pcp b' (nb + t) ∧ (∀ i : Nat, k ≤ i → i < nb → b' i = b i) ∧ (∀ i : Nat, i < k ∨ (nb ≤ i ∧ i < nb + t) → cop (b' i) Fc) ∧ dsm b' (nb + t) + Fc.length ≤ dsm b nb + F.length ∧ cn c.2.2 (wgf s 28) (nb + t) ≤ 2 * (F.length - Fc.length) ∧ wgf c.2.2 24 ≤ wgf s 24 + 5834 * (dsm b k : Int) + 8100 * ((F.length : Int) - Fc.length) ∧ wgf c.2.2 28 ≤ wgf s 28 + 10 * k + 4 * ((F.length : Int) - Fc.length) ∧ jz b nb F k t b' Fc) ∧ ((nb : Int) - c.2.1).toNat < ((nb : Int) - k).toNat) (wgf s 28) (wgf s 24) fc (nb : Int) (k : Int) h s6 Q := by
      intro s6 t' b'' v1 v2 v3 v4 v5 v6 v7 v8 v9 v10 v11 v12 v13 v14
      unfold W_join_119
      refine share_fc v4 v5 i8 gH qHF (by omega) (by omega) (by omega) (fun s7 f2 g1 g2 g3 g4 g5 g6 g7 => ?_)
      unfold W_join_129
      have g13 := g1.2.2.1
      have q7 : ∀ i : Int, wga s7 602 i = wga s6 602 i := fun i => ps_r g1 (by decide) (by decide) (by decide)
      have dv2 : dvz f2 Fc := ⟨H, fun x => by rw [g6 x]; grind⟩
      have f21 := g4.1.1
      refine ⟨⟨by omega, by omega⟩, ⟨f2, t', k + 1, b'', by (try dsimp only); omega, by omega, pw_tr v1 (ps_pw g1 (by omega) (by omega)), by (try dsimp only); omega, by (try dsimp only); omega, g3, Or.inl (by (try dsimp only); omega), g4, sqf_fct i9 g6, dvz_trans dv2 i10, by omega, ?_, fun i hi => ⟨?_, (v7 i hi).2⟩, fun i hi q => ?_, v9, v10, v11 f2 g6, by omega, ?_, ?_, ?_, v14 f2 g6⟩, by (try dsimp only); omega⟩
      · (try dsimp only); rw [ps_f g1 (by decide) (by decide) (by decide)]; exact v6
      · (try dsimp only); rw [q7]; exact ps_pol g1 (by omega) (v7 i hi).1
      · dsimp only at q ⊢
        rw [q7] at q ⊢
        exact v8 i hi q
      · try dsimp only
        rw [cn_co (s := s6) (fun i _ => q7 i)]
        omega
      · (try dsimp only); omega
      · (try dsimp only); omega
    have cn5 : cn s5 (wgf s 28) (nb + t) ≤ cn s2 (wgf s 28) (nb + t) + 1 := by
      rw [e5]
      have a := cn_set (s := s4) (mk := wgf s 28) (x := h) (i := k) (n := nb + t)
      rw [cn_co (s := s2) (s' := s4) (fun i _ => q4 i)] at a
      exact a
    have q5o : ∀ i : Nat, i ≠ k → wga s5 602 i = wga s2 602 i := fun i hi => by rw [e5, wg_ne (by omega) (by omega) (by omega)]; exact q4 i
    have q5k : wga s5 602 (k : Int) = h := by rw [e5]; exact wg_same
    have t345 : wgf s5 34 = ((nb + t : Nat) : Int) := by rw [e5, wf_pa, ps_f d1 (by decide) (by decide) (by decide)]; exact t34
    have w5 : pw pF2 pR2 (wgf s 24) (wgf s 28) s s5 := by rw [e5]; exact pw_pa w4 (by decide)
    have pl25 : ∀ (g : Int) (P : List Int), pol s2 g P → pol s5 g P := fun g P w => pl5 _ _ (ps_pol d1 (by omega) (ps_pol a1 (by omega) w))
    obtain ⟨b1', hn', ho'⟩ : ∃ b1' : Nat → List Int, b1' k = H ∧ ∀ i, i ≠ k → b1' i = b' i := ⟨fun i => if i = k then H else b' i, if_pos rfl, fun i hi => if_neg hi⟩
    have be5 : ∀ i : Nat, i < nb + t → be s5 i (b1' i) := fun i hi => by
      by_cases e : i = k
      · subst e
        rw [hn']
        unfold be
        rw [q5k]
        exact ⟨pl5 _ _ (ps_pol d1 (by omega) a4), bH⟩
      · rw [ho' i e]
        unfold be
        rw [q5o i e]
        exact ⟨pl25 _ _ (i13 i hi).1, (i13 i hi).2⟩
    have lo5 : ∀ i : Nat, i < nb + t → wga s5 602 i < wgf s 28 → pol s (wga s5 602 i) (b1' i) := fun i hi q => by
      by_cases e : i = k
      · subst e; rw [q5k] at q; omega
      · rw [q5o i e] at q ⊢
        rw [ho' i e]
        exact i14 i hi q
    have cH : ∀ i : Nat, i < nb + t → i ≠ k → cop (b' i) H ∧ cop (b' i) O := fun i hi hik => by
      have z : cop (b' i) (b' k) := by
        rcases Nat.lt_or_gt_of_ne hik with q | q
        · exact i15 i k q (by omega)
        · exact cop_sym (i15 k i q hi)
      exact ⟨cop_dv z dvH, cop_dv z dvO⟩
    have pc5 : pcp b1' (nb + t) := fun i j ij jn => by
      by_cases ei : i = k
      · subst ei
        rw [hn', ho' j (by omega)]
        exact cop_sym (cH j jn (by omega)).1
      · by_cases ej : j = k
        · subst ej
          rw [hn', ho' i ei]
          exact (cH i (by omega) ei).1
        · rw [ho' i ei, ho' j ej]; exact i15 i j ij jn
    have cf : ∀ f2 : List Int, (∀ x : Rat, pev Fc x = pev H x * pev f2 x) → ∀ i : Nat, i < k + 1 ∨ (nb ≤ i ∧ i < nb + t) → cop (b1' i) f2 := fun f2 e i hi => by
      by_cases ei : i = k
      · subst ei
        rw [hn']
        exact cop_sq i9 e
      · rw [ho' i ei]
        exact cop_dv (i17 i (by omega)) ⟨H, fun x => by rw [e x]; grind⟩
    have ds5 := dsm_set (b := b') (b' := b1') (k := k) (n := nb + t) (by omega) ho'
    rw [hn'] at ds5
    refine ⟨fun c3 => ?_, fun c3 => ?_⟩
    · rw [deg5] at c3
      have lO : O.length = 1 := by omega
      exact fin s5 t b1' w5 (by rw [e5, wf_pa]) (by rw [e5, wf_pa]) (pl25 _ _ i6) (pl5 _ _ (ps_pol d1 (by omega) a4)) t345 be5 lo5 pc5 (fun i h1 h2 => by rw [ho' i (by omega)]; exact i16 i (by omega) h2) cf (by omega) (by omega) (fun f2 e => jz_cut i22 hk i15 d6 (fun x => gd_one d4.1 lO x) e i10 hn' ho')
    · rw [deg5] at c3
      have lO : 2 ≤ O.length := by omega
      rw [t345]
      refine ⟨⟨by omega, by omega⟩, fun s6 e6 => ⟨?_, fun s7 e7 => ?_⟩⟩
      · rw [e6, wf_pa, t345]; exact ⟨by omega, by omega⟩
      have t347 : wgf s7 34 = ((nb + (t + 1) : Nat) : Int) := by rw [e7, wf_same, e6, wf_pa, t345]; omega
      have pl7 : ∀ (g : Int) (P : List Int), pol s5 g P → pol s7 g P := fun g P w => by
        rw [e7, e6]; exact pol_pf (by decide) (by decide) (pol_pa (by decide) (by decide) (by decide) w)
      have q7 : ∀ i : Int, wga s7 602 i = wga (wpa s5 602 ((nb + t : Nat) : Int) (wgf s3 28 + 1)) 602 i := fun i => by rw [e7, wg_pf, e6]
      have q7o : ∀ i : Nat, i < nb + t → wga s7 602 i = wga s5 602 i := fun i hi => by rw [q7, wg_ne (by omega) (by omega) (by omega)]
      have q7n : wga s7 602 ((nb + t : Nat) : Int) = wgf s3 28 + 1 := by rw [q7, wg_same]
      obtain ⟨b2', hn2, ho2⟩ : ∃ b2' : Nat → List Int, b2' (nb + t) = O ∧ ∀ i, i ≠ nb + t → b2' i = b1' i := ⟨fun i => if i = nb + t then O else b1' i, if_pos rfl, fun i hi => if_neg hi⟩
      have bO : bs O := bs_dv bk d4.1 dvO lO
      refine fin s7 (t + 1) b2' (by rw [e7, e6]; exact pw_pf (pw_pa w5 (by decide)) (Or.inr (Or.inr (Or.inr (by decide))))) (by rw [e7, wf_ne (by decide), e6, wf_pa, e5, wf_pa]) (by rw [e7, wf_ne (by decide), e6, wf_pa, e5, wf_pa]) (pl7 _ _ (pl25 _ _ i6)) (pl7 _ _ (pl5 _ _ (ps_pol d1 (by omega) a4))) t347 (fun i hi => ?_) (fun i hi q => ?_) (fun i j ij jn => ?_) (fun i h1 h2 => ?_) (fun f2 e i hi => ?_) ?_ ?_ (fun f2 e => jz_split i22 hk i15 d6 bk.2.1 (cop_q a5 d6 e) e i10 (by rw [ho2 k (by omega)]; exact hn') hn2 (fun i h1 h2 => by rw [ho2 i h2]; exact ho' i h1))
      · unfold be
        by_cases ei : i = nb + t
        · subst ei
          rw [hn2, q7n]
          exact ⟨pl7 _ _ (pl5 _ _ d3), bO⟩
        · rw [ho2 i ei, q7o i (by omega)]
          have z := be5 i (by omega)
          exact ⟨pl7 _ _ z.1, z.2⟩
      · by_cases ei : i = nb + t
        · subst ei; rw [q7n] at q; omega
        · rw [q7o i (by omega)] at q ⊢
          rw [ho2 i ei]
          exact lo5 i (by omega) q
      · by_cases ej : j = nb + t
        · subst ej
          rw [hn2, ho2 i (by omega)]
          by_cases ei : i = k
          · subst ei
            rw [hn']
            exact cop_sq bk.2.1 d6
          · rw [ho' i ei]
            exact (cH i (by omega) ei).2
        · rw [ho2 i (by omega), ho2 j ej]
          exact pc5 i j ij (by omega)
      · rw [ho2 i (by omega), ho' i (by omega)]; exact i16 i (by omega) h2
      · by_cases ei : i = nb + t
        · subst ei
          rw [hn2]
          exact cop_q a5 d6 e
        · rw [ho2 i ei]
          exact cf f2 e i (by omega)
      · have z : dsm b2' (nb + (t + 1)) = dsm b1' (nb + t) + (O.length - 1) := by
          show dsm b2' (nb + t) + ((b2' (nb + t)).length - 1) = _
          rw [hn2, dsm_co (c := b1') (d := b2') (fun i hi => ho2 i (by omega))]
        rw [z]
        omega
      · have z : cn s7 (wgf s 28) (nb + t) = cn s5 (wgf s 28) (nb + t) := cn_co q7o
        show cn s7 (wgf s 28) (nb + t) + (if wgf s 28 ≤ wga s7 602 ((nb + t : Nat) : Int) then 1 else 0) ≤ _
        rw [z]
        split <;> omega
