theorem pwt_tk {tx : Nat → Int} {n i j : Nat} {p m : po} (h : pwt tx n i p (.inr (j, m))) : j < n → tok (tx j) := by
  rcases h with ⟨e, _, er⟩ | ⟨j1, a, h⟩
  · cases er
  · rcases h with ⟨_, er⟩ | ⟨_, h⟩
    · cases er; exact (adv_sk a).2
    · rcases h with ⟨e, _, er⟩ | ⟨j2, a2, h⟩
      · cases er
      · rcases h with ⟨_, er⟩ | ⟨_, h⟩
        · cases er
        · rcases h with ⟨e, _, er⟩ | ⟨j3, v, nm, h⟩
          · cases er
          · rcases h with ⟨_, er⟩ | ⟨m', _, er⟩
            · cases er
            · cases er
              obtain ⟨t, w, _, _, _, q | ⟨_, q, aq, eq⟩⟩ := nm
              · exact absurd q.2.2.2 (by simp)
              · cases q with
                | inl e => cases eq
                | inr y =>
                  obtain ⟨j9, u⟩ := y
                  cases eq
                  exact (adv_sk aq).2
/-- endBase within the loop -/
theorem endBase_I {tx : Nat → Int} {n i : Nat} {R : ou po} {s0 s : im_S} {ls : List lev} {L : lev} {p : po} {rp : ou po} {Q : im_S → Prop} (hl : lvf 0 s0 s) (hc : rtx tx n s) (hd : ls.length ≤ 10) (h0 : s.1 582 2 = 0) (hi : s.1 582 4 = (i : Int)) (dp : s.1 582 21 = (ls.length : Int)) (hB : rw9 s 591 ls.length p) (fB : fin9 p) (hp : pwt tx n i p rp) (hP : ctP tx n (ctS tx n R ls) ls.length L rp) (hA : lvA s ls.length L) (hF : lvF s ls.length L) (hS : stS s ls) (hQ : ∀ s', SIv tx n R s0 (0, 0, s') → Q s') : C_endBase10 s Q := by
  have hT0 : ∃ T0, rw9 s 590 ls.length T0 := ⟨fun k => s.2 590 (9 * ls.length + k), fun k _ => rfl⟩
  cases q : L.2.2.2 with
  | none =>
    unfold lvF at hF
    rw [q] at hF
    refine endBase_r (T := fun _ => 0) hc hd h0 hi dp hB fB hF (fun z => absurd z (by decide)) hT0 hp (fun s' o => hQ s' (ebR_I hl hc hd hP hA hS (by rw [q]) (fun j m e => by subst e; exact pwt_tk hp) o))
  | some y =>
    obtain ⟨p0, tp⟩ := y
    unfold lvF at hF
    rw [q] at hF
    obtain ⟨a, b, p', x, y, z⟩ := hF
    exact endBase_r (T := p') hc hd h0 hi dp hB fB a (fun _ => ⟨y, z⟩) hT0 hp (fun s' o => hQ s' (ebR_I hl hc hd hP hA hS (by rw [q]; exact ⟨rfl, b, x⟩) (fun j m e => by subst e; exact pwt_tk hp) o))
/-- cells of level d but its base's row -/
def b91 (d : Nat) (s s' : im_S) : Prop := gfr (fun c f => c = 582 ∧ 2 ≤ f ∧ f ≤ 4) (fun c => c = 591) s s' ∧ ∀ k, k < 9 * d → s'.2 591 k = s.2 591 k
theorem b91_lv {d : Nat} {s s' : im_S} (h : b91 d s s') : lvf d s s' := ⟨gfr_mono h.1 (fun c f e => by omega) (fun c e => by omega), fun c k hk hc => by
  by_cases q : c = 591
  · subst q; exact h.2 k hk
  · rw [h.1.2 _ q], fun c k hk hc => by rw [h.1.2 _ (by omega)]⟩
theorem b91_A {d : Nat} {s s' : im_S} {L : lev} (h : b91 d s s') (a : lvA s d L) : lvA s' d L := by
  obtain ⟨a, b, c, g⟩ := a
  refine ⟨?_, by show s'.2 593 _ = _; rw [h.1.2 _ (by omega)]; exact b, c, fun z => by show s'.2 594 _ = _; rw [h.1.2 _ (by omega)]; exact g z⟩
  split
  · rename_i q; rw [q] at a; exact fun x hx => by rw [h.1.2 _ (by omega)]; exact a x hx
  · rename_i q; rw [q] at a
    obtain ⟨c', x, y, w⟩ := a
    exact ⟨c', x, fun u hu => by rw [h.1.2 _ (by omega)]; exact y u hu, w⟩
theorem b91_F {d : Nat} {s s' : im_S} {L : lev} (h : b91 d s s') (a : lvF s d L) : lvF s' d L := by
  unfold lvF at a ⊢
  split
  · rename_i q; rw [q] at a; show s'.2 595 _ = _; rw [h.1.2 _ (by omega)]; exact a
  · rename_i q; rw [q] at a
    obtain ⟨x, y, p', u, v, w⟩ := a
    exact ⟨by show s'.2 595 _ = _; rw [h.1.2 _ (by omega)]; exact x, y, p', u, fun k hk => by rw [h.1.2 _ (by omega)]; exact v k hk, w⟩
theorem b91_pk {d : Nat} {s s' : im_S} (h : pkf s s') : b91 d s s' := ⟨gfr_mono h (fun c f e => e) (fun c e => e.elim), fun k _ => by rw [h.2 _ (fun z => z)]⟩
theorem b91_tr {d : Nat} {s s' s2 : im_S} (h : b91 d s s') (h2 : b91 d s' s2) : b91 d s s2 := ⟨gfr_trans h.1 h2.1, fun k hk => (h2.2 k hk).trans (h.2 k hk)⟩
