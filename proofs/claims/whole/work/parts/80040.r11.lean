/-! the reference's levels -/
def lvA (s : im_S) (d : Nat) (L : lev) : Prop := (match L.1 with
    | none => rw9 s 589 d (fun _ => 0)
    | some c => ∃ c', e9 c c' ∧ rw9 s 589 d c' ∧ fin9 c') ∧ rw1 s 593 d L.2.1 ∧ (L.2.1 = 1 ∨ L.2.1 = -1) ∧ (L.1 ≠ none → rw1 s 594 d L.2.2.1)
def lvF (s : im_S) (d : Nat) (L : lev) : Prop := match L.2.2.2 with
    | none => rw1 s 595 d (-1)
    | some (p, tp) => rw1 s 595 d tp ∧ 0 ≤ tp ∧ ∃ p', e9 p p' ∧ rw9 s 590 d p' ∧ fin9 p'
def stS (s : im_S) : List lev → Prop
  | [] => True
  | L :: ls => lvA s ls.length L ∧ lvF s ls.length L ∧ stS s ls
theorem rw9_lv {s s' : im_S} {c d e : Nat} {P : po} (h : rw9 s c e P) (f : lvf d s s') (he : e < d) (hc : c = 589 ∨ c = 590 ∨ c = 591) : rw9 s' c e P := fun k hk => by rw [f.2.1 c _ (by omega) hc]; exact h k hk
theorem rw1_lv {s s' : im_S} {c d e : Nat} {x : Int} (h : rw1 s c e x) (f : lvf d s s') (he : e < d) (hc : c = 593 ∨ c = 594 ∨ c = 595) : rw1 s' c e x := by
  show s'.2 c e = x
  rw [f.2.2 c _ he hc]; exact h
theorem lvA_lv {s s' : im_S} {d e : Nat} {L : lev} (h : lvA s e L) (f : lvf d s s') (he : e < d) : lvA s' e L := by
  obtain ⟨a, b, c, g⟩ := h
  refine ⟨?_, rw1_lv b f he (by omega), c, fun z => rw1_lv (g z) f he (by omega)⟩
  split
  · rename_i q; rw [q] at a; exact rw9_lv a f he (by omega)
  · rename_i q; rw [q] at a
    obtain ⟨c', x, y, z⟩ := a
    exact ⟨c', x, rw9_lv y f he (by omega), z⟩
theorem lvF_lv {s s' : im_S} {d e : Nat} {L : lev} (h : lvF s e L) (f : lvf d s s') (he : e < d) : lvF s' e L := by
  unfold lvF at h ⊢
  split
  · rename_i q; rw [q] at h; exact rw1_lv h f he (by omega)
  · rename_i q; rw [q] at h
    obtain ⟨a, b, p', x, y, z⟩ := h
    exact ⟨rw1_lv a f he (by omega), b, p', x, rw9_lv y f he (by omega), z⟩
theorem stS_lv {s s' : im_S} {d : Nat} (f : lvf d s s') : ∀ {ls : List lev}, ls.length ≤ d → stS s ls → stS s' ls
  | [], _, _ => trivial
  | L :: ls, hd, ⟨a, b, c⟩ => by
    have hd : ls.length + 1 ≤ d := hd
    exact ⟨lvA_lv a f (by omega), lvF_lv b f (by omega), stS_lv f (by omega) c⟩
/-- a base is wanted -/
def WBs (tx : Nat → Int) (n : Nat) (R : ou po) (s : im_S) : Prop := ∃ (ls : List lev) (L : lev) (i : Nat) (q : ou Unit), s.1 582 2 = 0 ∧ s.1 582 4 = (i : Int) ∧ s.1 582 21 = (ls.length : Int) ∧ ls.length ≤ 10 ∧ adv tx n i q ∧ ((∃ e, q = .inl e ∧ R = .inl e) ∨ ∃ j rp, q = .inr (j, ()) ∧ Gx tx n 1 poX ls.length j rp ∧ ctP tx n (ctS tx n R ls) ls.length L rp) ∧ lvA s ls.length L ∧ lvF s ls.length L ∧ stS s ls
/-- a sign behind a factor is wanted -/
def NBs (tx : Nat → Int) (n : Nat) (R : ou po) (s : im_S) : Prop := ∃ (ls : List lev) (L : lev) (j : Nat) (p p' : po) (rt : ou po), rgs tx n s j ∧ (j < n → tok (tx j)) ∧ s.1 582 21 = (ls.length : Int) ∧ ls.length ≤ 10 ∧ Gx tx n 3 p ls.length j rt ∧ ctT tx n (ctS tx n R ls) ls.length L rt ∧ e9 p p' ∧ rw9 s 590 ls.length p' ∧ fin9 p' ∧ lvA s ls.length L ∧ stS s ls
/-- the sum has been read -/
def DNs (tx : Nat → Int) (n : Nat) (R : ou po) (s : im_S) : Prop := ∃ (j : Nat) (P P' : po), R = .inr (j, P) ∧ e9 P P' ∧ rw9 s 589 0 P' ∧ fin9 P' ∧ rgs tx n s j ∧ (j < n → tok (tx j))
def SIv (tx : Nat → Int) (n : Nat) (R : ou po) (s0 : im_S) (a : Int × Int × im_S) : Prop := (∃ e, rbd a.2.2 e ∧ R = .inl e) ∨ (lvf 0 s0 a.2.2 ∧ rtx tx n a.2.2 ∧ ((a.2.1 ≠ 0 ∧ DNs tx n R a.2.2) ∨ (a.2.1 = 0 ∧ a.1 ≠ 0 ∧ WBs tx n R a.2.2) ∨ (a.2.1 = 0 ∧ a.1 = 0 ∧ NBs tx n R a.2.2)))
/-- behind endBase: the outcome of the power told; on with the rest of the term -/
theorem ebR_I {tx : Nat → Int} {n : Nat} {R : ou po} {s0 s s' : im_S} {ls : List lev} {L : lev} {rp : ou po} {tp : Int} {T : po} (hl : lvf 0 s0 s) (hc : rtx tx n s) (hd : ls.length ≤ 10) (hP : ctP tx n (ctS tx n R ls) ls.length L rp) (hA : lvA s ls.length L) (hS : stS s ls) (hF : match L.2.2.2 with
    | none => tp = -1
    | some (p, t) => tp = t ∧ 0 ≤ t ∧ e9 p T) (htk : ∀ j m, rp = .inr (j, m) → (j < n → tok (tx j))) (h : ebR tx n ls.length tp T s s' rp) : SIv tx n R s0 (0, 0, s') := by
  cases rp with
  | inl e => exact Or.inl ⟨e, h, ctS_e hP⟩
  | inr z =>
    obtain ⟨j, m⟩ := z
    obtain ⟨⟨m', em, h⟩, k⟩ := h
    have A' : s'.1 582 2 = 0 → lvA s' ls.length L := fun z => by
      obtain ⟨k1, k2, k3⟩ := k z
      obtain ⟨a, b, c, g⟩ := hA
      refine ⟨?_, by show s'.2 593 _ = _; rw [k3 593 _ (by omega)]; exact b, c, fun z => by show s'.2 594 _ = _; rw [k3 594 _ (by omega)]; exact g z⟩
      split
      · rename_i q; rw [q] at a; exact fun x hx => by rw [k2]; exact a x hx
      · rename_i q; rw [q] at a
        obtain ⟨c', x, y, w⟩ := a
        exact ⟨c', x, fun u hu => by rw [k2]; exact y u hu, w⟩
    unfold ctP at hP
    rcases h with ⟨t0, r1, f1, g1, l1⟩ | ⟨t0, h⟩
    · right
      refine ⟨lvf_tr hl l1 (Nat.zero_le _), rtx_lv hc l1, ?_⟩
      right; right
      have hN : L.2.2.2 = none := by
        cases q : L.2.2.2 with
        | none => rfl
        | some y => rw [q] at hF; obtain ⟨a, b, _⟩ := hF; omega
      rw [hN] at hP
      obtain ⟨rt, g3, ht⟩ := hP
      exact ⟨rfl, rfl, ls, L, j, m, m', rt, g1, htk j m rfl, (k g1.1).1, hd, g3, ht, em, r1, f1, A' g1.1, stS_lv l1 (Nat.le_refl _) hS⟩
    · cases q : L.2.2.2 with
      | none => rw [q] at hF; omega
      | some y =>
        obtain ⟨p, t⟩ := y
        rw [q] at hF hP
        obtain ⟨et, _, ep⟩ := hF
        subst et
        rcases h with ⟨mu, b⟩ | ⟨kk, mu, r1, f1, g1, l1⟩
        · rcases hP with ⟨mu2, w⟩ | ⟨m2, rt, mu2, _⟩
          · exact Or.inl ⟨_, b, ctS_e w⟩
          · exact (mulo_o9 ep em mu2 mu).elim
        · rcases hP with ⟨mu2, w⟩ | ⟨m2, rt, mu2, g3, ht⟩
          · exact (mulo_o9 ep em mu2 mu).elim
          · right
            refine ⟨lvf_tr hl l1 (Nat.zero_le _), rtx_lv hc l1, ?_⟩
            right; right
            exact ⟨rfl, rfl, ls, L, j, m2, kk, rt, g1, htk j m rfl, (k g1.1).1, hd, g3, ht, mulo_o9 ep em mu2 mu, r1, f1, A' g1.1, stS_lv l1 (Nat.le_refl _) hS⟩
