/-! the machine comes to one end only: what two walks tell of a call may be put together -/
section DET
variable {G : List im_D} {P : Nat → rm_M} {L : Nat} {ys : Nat → Int32}
theorem det_ret {call : im_CL} {M : rm_M} {rt : Nat} {i : Instr} {n : Nat} {q r : im_N} {res : im_Re} (h : im_ret rt i n q = some res) (h2 : im_one G call P M L ys i n q r) : False := by
  unfold im_ret at h
  split at h
  · obtain ⟨g, hg, _⟩ := h2; cases hg
  · obtain ⟨g, hg, _⟩ := h2; cases hg
  · obtain ⟨g, hg, _⟩ := h2; cases hg
  · obtain ⟨g, hg, _⟩ := h2; cases hg
  · cases h
theorem det_one {call : im_CL} (hc : ∀ mi av s r r', call mi av s r → call mi av s r' → r = r') {M : rm_M} {i : Instr} {n : Nat} {q r r' : im_N} (h : im_one G call P M L ys i n q r) (h' : im_one G call P M L ys i n q r') : r = r' := by
  unfold im_one at h h'
  cases hk : rm_ck i with
  | none =>
    rw [hk] at h h'
    obtain ⟨g, g1, g2⟩ := h
    obtain ⟨g', g1', g2'⟩ := h'
    rw [g1] at g1'
    cases g1'
    rw [g2] at g2'
    exact Option.some.inj g2'
  | some kk =>
    rw [hk] at h h'
    have h := h.2
    have h' := h'.2
    unfold im_inv at h h'
    split at h
    · rename_i e1 e2
      rw [e1, e2] at h'
      obtain ⟨_, _, res, h3, rfl⟩ := h
      obtain ⟨_, _, res', h3', rfl⟩ := h'
      rw [hc _ _ _ _ _ h3 h3']
    · rename_i e1 e2
      rw [e1, e2] at h'
      have h' : im_acopy G q = some r' := h'
      rw [h] at h'
      exact Option.some.inj h'
    · rename_i e1 e2
      rw [e1, e2] at h'
      obtain ⟨a, rest, tys, k1, _, _, res, h3, rfl⟩ := h
      obtain ⟨a', rest', tys', k1', _, _, res', h3', rfl⟩ := h'
      rw [k1] at k1'
      cases k1'
      rw [hc _ _ _ _ _ h3 h3']
    · rename_i e1 e2
      rw [e1, e2] at h'
      obtain ⟨a, rest, k1, _, _, res, h3, rfl⟩ := h
      obtain ⟨a', rest', k1', _, _, res', h3', rfl⟩ := h'
      rw [k1] at k1'
      cases k1'
      rw [hc _ _ _ _ _ h3 h3']
    · cases h
theorem det_loop {call : im_CL} (hc : ∀ mi av s r r', call mi av s r → call mi av s r' → r = r') {M : rm_M} : ∀ (f f' : Nat) (q : im_N) (r r' : im_Re), im_loop G call P M L ys f q r → im_loop G call P M L ys f' q r' → r = r' := by
  intro f
  induction f with
  | zero => intro f' q r r' h; cases h
  | succ f ih =>
    intro f' q r r' h h'
    cases f' with
    | zero => cases h'
    | succ f' =>
      obtain ⟨i, n, h1, h2⟩ : ∃ i n, rm_find M.1 q.1 = some (i, n) ∧ (im_ret M.2.2.2.1 i n q = some r ∨ ∃ x, im_one G call P M L ys i n q x ∧ im_loop G call P M L ys f x r) := h
      obtain ⟨i', n', h1', h2'⟩ : ∃ i n, rm_find M.1 q.1 = some (i, n) ∧ (im_ret M.2.2.2.1 i n q = some r' ∨ ∃ x, im_one G call P M L ys i n q x ∧ im_loop G call P M L ys f' x r') := h'
      rw [h1] at h1'
      cases h1'
      rcases h2 with h2 | ⟨x, x1, x2⟩
      · rcases h2' with h2' | ⟨x', x1', x2'⟩
        · rw [h2] at h2'
          exact Option.some.inj h2'
        · exact (det_ret h2 x1').elim
      · rcases h2' with h2' | ⟨x', x1', x2'⟩
        · exact (det_ret h2' x1).elim
        · have e := det_one hc x1 x1'
          subst e
          exact ih f' x r r' x2 x2'
theorem det_call : ∀ (d mi : Nat) (av : List im_V) (s : im_S) (r r' : im_Re), im_call G P L ys d mi av s r → im_call G P L ys d mi av s r' → r = r' := by
  intro d
  induction d with
  | zero => intro mi av s r r' h; cases h
  | succ d ih =>
    intro mi av s r r' h h'
    obtain ⟨_, f, h⟩ : (lg_sl (av.map im_cv)).length ≤ (P mi).2.2.1 ∧ ∃ f, im_loop G (im_call G P L ys d) P (P mi) L ys f (0, im_args 0 av, [], s) r := h
    obtain ⟨_, f', h'⟩ : (lg_sl (av.map im_cv)).length ≤ (P mi).2.2.1 ∧ ∃ f, im_loop G (im_call G P L ys d) P (P mi) L ys f (0, im_args 0 av, [], s) r' := h'
    exact det_loop ih f f' _ r r' h h'
theorem ic_and {d mi : Nat} {av : List im_V} {s : im_S} {Q1 Q2 : im_Re → Prop} (h1 : ic G P L ys d mi av s Q1) (h2 : ic G P L ys d mi av s Q2) : ic G P L ys d mi av s (fun r => Q1 r ∧ Q2 r) := by
  obtain ⟨r, a1, a2⟩ := h1
  obtain ⟨r', b1, b2⟩ := h2
  have e := det_call d mi av s r r' a1 b1
  subst e
  exact ⟨r, a1, a2, b2⟩
theorem icV_and {d mi : Nat} {av : List im_V} {s : im_S} {R1 R2 : im_S → Prop} (h1 : icV G P L ys d mi av s R1) (h2 : icV G P L ys d mi av s R2) : icV G P L ys d mi av s (fun s' => R1 s' ∧ R2 s') := by
  obtain ⟨r, a1, a2, a3⟩ := ic_and h1 h2
  exact ⟨r, a1, a2.1, a2.2, a3.2⟩
theorem icI_and {t d mi : Nat} {av : List im_V} {s : im_S} {R1 R2 : Int → im_S → Prop} (h1 : icI G P L ys t d mi av s R1) (h2 : icI G P L ys t d mi av s R2) : icI G P L ys t d mi av s (fun z s' => R1 z s' ∧ R2 z s') := by
  obtain ⟨r, a1, ⟨z, a2, a3⟩, z', b2, b3⟩ := ic_and h1 h2
  rw [a2] at b2
  cases b2
  exact ⟨r, a1, z, a2, a3, b3⟩
end DET
