/-! the text's loop of the reference -/
def RTv (tx : Nat → Int) (n : Nat) (R : ou ats) (a : Int × Int × Int × Int × im_S) : Prop :=
  (∃ e, rbd a.2.2.2.2 e ∧ R = .inl e) ∨ (rtx tx n a.2.2.2.2 ∧ a.2.2.2.2.1 582 2 = 0 ∧ ∃ A, rat a.2.2.2.2 A ∧
  ((a.2.2.2.1 ≠ 0 ∧ ∃ j, R = .inr (j, A)) ∨ (a.2.2.2.1 = 0 ∧ ∃ (d i : Nat) (q : ou Unit), a.1 = (d : Int) ∧ d ≤ 10 ∧ a.2.2.2.2.1 582 4 = (i : Int) ∧ adv tx n i q ∧
  ((a.2.2.1 ≠ 0 ∧ ∃ k : Nat, a.2.1 = (k : Int) ∧ k ≤ 10 ∧ ((∃ e, q = .inl e ∧ R = .inl e) ∨ ∃ j r1, q = .inr (j, ()) ∧ Tx tx n 1 k d j A r1 ∧ cR1 tx n (txS tx n R d) d r1)) ∨
  (a.2.2.1 = 0 ∧ a.2.1 = 0 ∧ ((∃ e, q = .inl e ∧ R = .inl e) ∨ ∃ j r3, q = .inr (j, ()) ∧ Tx tx n 3 0 d j A r3 ∧ cR3 tx n (txS tx n R d) d r3))))))
theorem RTv_bad {tx : Nat → Int} {n : Nat} {R : ou ats} {l1 l2 l3 l4 : Int} {s : im_S} {e : Int × Int} (h : rbd s e) (hR : R = .inl e) : RTv tx n R (l1, l2, l3, l4, s) := Or.inl ⟨e, h, hR⟩
theorem RTv_1 {tx : Nat → Int} {n : Nat} {R : ou ats} {l1 l2 l3 : Int} {s : im_S} {A : ats} {d i k : Nat} {q : ou Unit} (hc : rtx tx n s) (h0 : s.1 582 2 = 0) (hA : rat s A) (h1 : l1 = (d : Int)) (hd : d ≤ 10) (hi : s.1 582 4 = (i : Int)) (ha : adv tx n i q) (h3 : l3 ≠ 0) (h2 : l2 = (k : Int)) (hk : k ≤ 10) (h : (∃ e, q = .inl e ∧ R = .inl e) ∨ ∃ j r1, q = .inr (j, ()) ∧ Tx tx n 1 k d j A r1 ∧ cR1 tx n (txS tx n R d) d r1) : RTv tx n R (l1, l2, l3, 0, s) := Or.inr ⟨hc, h0, A, hA, Or.inr ⟨rfl, d, i, q, h1, hd, hi, ha, Or.inl ⟨h3, k, h2, hk, h⟩⟩⟩
theorem RTv_3 {tx : Nat → Int} {n : Nat} {R : ou ats} {l1 l2 : Int} {s : im_S} {A : ats} {d i : Nat} {q : ou Unit} (hc : rtx tx n s) (h0 : s.1 582 2 = 0) (hA : rat s A) (h1 : l1 = (d : Int)) (hd : d ≤ 10) (hi : s.1 582 4 = (i : Int)) (ha : adv tx n i q) (h2 : l2 = 0) (h : (∃ e, q = .inl e ∧ R = .inl e) ∨ ∃ j r3, q = .inr (j, ()) ∧ Tx tx n 3 0 d j A r3 ∧ cR3 tx n (txS tx n R d) d r3) : RTv tx n R (l1, l2, 0, 0, s) := Or.inr ⟨hc, h0, A, hA, Or.inr ⟨rfl, d, i, q, h1, hd, hi, ha, Or.inr ⟨rfl, h2, h⟩⟩⟩
def stf9 (s s' : im_S) : Prop := gfr (fun c f => c = 582 ∧ (f = 4 ∨ f = 10 ∨ f = 12)) (fun c => c = 586 ∨ c = 587) s s'
theorem stf_wt {s s' : im_S} (h : wtf9 s s') : stf9 s s' := gfr_mono h (fun c f e => by omega) (fun c e => e)
theorem rat_st {s s' : im_S} {A : ats} (h : rat s A) (f : stf9 s s') : rat s' A := by
  obtain ⟨a, b, c⟩ := h
  refine ⟨by rw [f.1 _ _ (by omega)]; exact a, b, fun i p w e => ?_⟩
  obtain ⟨x, y, z⟩ := c i p w e
  exact ⟨fun k hk => by rw [f.2 _ (by omega)]; exact x k hk, y, by rw [f.2 _ (by omega)]; exact z⟩
theorem rat_pk {s s' : im_S} {A : ats} (h : rat s A) (f : pkf s s') : rat s' A := by
  obtain ⟨a, b, c⟩ := h
  refine ⟨by rw [f.1 _ _ (by omega)]; exact a, b, fun i p w e => ?_⟩
  obtain ⟨x, y, z⟩ := c i p w e
  exact ⟨fun k hk => by rw [f.2 _ (fun z => z)]; exact x k hk, y, by rw [f.2 _ (fun z => z)]; exact z⟩
theorem rtx_st {tx : Nat → Int} {n : Nat} {s s' : im_S} (h : rtx tx n s) (f : stf9 s s') : rtx tx n s' := rtx_fr h f (by omega) (by omega)
theorem rbd_st {s s' : im_S} {e : Int × Int} (h : rbd s e) (f : stf9 s s') : rbd s' e := ⟨by rw [f.1 _ _ (by omega)]; exact h.1, h.2.1, by rw [f.1 _ _ (by omega)]; exact h.2.2⟩
/-- settle and on: what the loop's end does -/
theorem rt_292 {tx : Nat → Int} {n : Nat} {R : ou ats} {l1 l2 l3 l4 : Int} {s : im_S} {Q : im_S → Prop} (h : RTv tx n R (l1, l2, l3, l4, s)) (hz : l4 ≠ 0 ∨ s.1 582 2 ≠ 0) (hQ1 : ∀ e s', rbd s' e → R = .inl e → Q s') (hQ2 : ∀ s' j A, s'.1 582 2 = 0 → R = .inr (j, A) → rat s' A → Q s') : C_readText10_292 s Q := by
  refine settle_r (fun s1 f1 => ?_)
  rcases h with ⟨e, b, eR⟩ | ⟨_, h0, A, hA, h | h⟩
  · exact hQ1 e s1 (rbd_wt b f1) eR
  · obtain ⟨_, j, eR⟩ := h
    exact hQ2 s1 j A (by rw [f1.1 _ _ (by omega)]; exact h0) eR (rat_wt hA f1)
  · obtain ⟨h4, _⟩ := h
    rcases hz with hz | hz
    · exact absurd h4 hz
    · exact absurd h0 hz
/-- wait and one sign on -/
theorem rt_step {x : Int} {s : im_S} {i : Nat} {K : im_S → Prop} (hi : s.1 582 4 = (i : Int)) (hn : i ≤ 400) (h : ∀ s', s'.1 582 4 = ((i + 1 : Nat) : Int) → stf9 s s' → K s') : C_wait110 x s (fun s435 => ∀ s438, s438 = cpf s435 582 4 (w32 ((cgf s435 582 4) + 1)) → K s438) := by
  refine wait_r (fun s1 f1 s2 e2 => ?_)
  have e4 : cgf s1 582 4 = (i : Int) := (f1.1 _ _ (by omega)).trans hi
  refine h s2 ?_ ?_
  · rw [e2, cpf_same, e4, w32_id (by omega) (by omega)]; omega
  · subst e2; exact gfr_pf (stf_wt f1) ⟨rfl, Or.inl rfl⟩
theorem rt_badstep {x : Int} {s : im_S} {e : Int × Int} {K : im_S → Prop} (hb : rbd s e) (h : ∀ s', rbd s' e → K s') : C_wait110 x s (fun s435 => ∀ s438, s438 = cpf s435 582 4 (w32 ((cgf s435 582 4) + 1)) → K s438) := by
  refine wait_r (fun s1 f1 s2 e2 => ?_)
  refine h s2 ?_
  subst e2
  exact rbd_st (rbd_wt hb f1) (gfr_pf (gfr_refl _ _ _) ⟨rfl, Or.inl rfl⟩)
