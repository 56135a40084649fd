/-- a row of one number a level -/
def rw1 (s : im_S) (c d : Nat) (x : Int) : Prop := s.2 c d = x
/-- levels below d are as they were; nothing else but the reader's own -/
def lvf (d : Nat) (s s' : im_S) : Prop := gfr (fun c f => c = 582 ∧ ((2 ≤ f ∧ f ≤ 4) ∨ f = 21)) (fun c => 589 ≤ c ∧ c ≤ 596) s s' ∧ (∀ c k, k < 9 * d → (c = 589 ∨ c = 590 ∨ c = 591) → s'.2 c k = s.2 c k) ∧ ∀ c k, k < d → (c = 593 ∨ c = 594 ∨ c = 595) → s'.2 c k = s.2 c k
theorem lvf_refl (d : Nat) (s : im_S) : lvf d s s := ⟨gfr_refl _ _ _, fun _ _ _ _ => rfl, fun _ _ _ _ => rfl⟩
theorem lvf_tr {d d' : Nat} {s s' s2 : im_S} (h : lvf d s s') (h2 : lvf d' s' s2) (hd : d ≤ d') : lvf d s s2 := ⟨gfr_trans h.1 h2.1, fun c k hk hc => (h2.2.1 c k (by omega) hc).trans (h.2.1 c k hk hc), fun c k hk hc => (h2.2.2 c k (by omega) hc).trans (h.2.2 c k hk hc)⟩
theorem lvf_pk {d : Nat} {s s' : im_S} (h : pkf s s') : lvf d s s' := ⟨gfr_mono h (fun c f e => by omega) (fun c e => e.elim), fun c k _ _ => by rw [h.2 _ (fun z => z)], fun c k _ _ => by rw [h.2 _ (fun z => z)]⟩
theorem lvf_rw {d : Nat} {s s' : im_S} (h : rwf d s s') : lvf d s s' := ⟨gfr_mono h.1 (fun c f e => e.elim) (fun c e => by omega), fun c k hk hc => by
  by_cases q : c = 589
  · subst q; rw [h.1.2 _ (by omega)]
  · exact h.2 c k (by omega) (by omega), fun c k hk hc => by rw [h.1.2 _ (by omega)]⟩
theorem rtx_lv {tx : Nat → Int} {n d : Nat} {s s' : im_S} (h : rtx tx n s) (f : lvf d s s') : rtx tx n s' := rtx_fr h f.1 (by omega) (by omega)
/-- what the end of a term leaves of level d -/
def etf (d : Nat) (s s' : im_S) : Prop := gfr (fun c f => c = 582 ∧ (f = 2 ∨ f = 3)) (fun c => c = 589 ∨ c = 595) s s' ∧ (∀ k, (k < 9 * d ∨ 9 * d + 9 ≤ k) → s'.2 589 k = s.2 589 k) ∧ ∀ k, k ≠ d → s'.2 595 k = s.2 595 k
theorem endTerm_r {s : im_S} {d : Nat} {S T : po} {sg sp : Int} {Q : im_S → Prop} (hd : d ≤ 10) (h0 : s.1 582 2 = 0) (dp : s.1 582 21 = (d : Int)) (hS : rw9 s 589 d S) (hT : rw9 s 590 d T) (fS : fin9 S) (fT : fin9 T) (hg : rw1 s 593 d sg) (g1 : sg = 1 ∨ sg = -1) (hp : rw1 s 594 d sp) (h1 : ∀ m, addo S T sg (some m) → ∀ s', s'.1 582 2 = 0 → rw9 s' 589 d m → fin9 m → rw1 s' 595 d (-1) → etf d s s' → Q s') (h2 : addo S T sg none → ∀ s', rbd s' (3, sp) → Q s') : C_endTerm10 s Q := by
  refine ⟨fun q => (rbd q.2 (3, sp) ∧ ¬ fin9 (fun k => S k + sg * T k)) ∨ ∃ i : Nat, q.1 = (i : Int) ∧ i ≤ 9 ∧ gfr (fun _ _ => False) (fun c => c = 589) s q.2 ∧ (∀ k, (k < 9 * d ∨ 9 * d + 9 ≤ k) → q.2.2 589 k = s.2 589 k) ∧ (∀ k, k < 9 → q.2.2 589 (9 * d + k) = if k < i then S k + sg * T k else S k) ∧ ∀ k, k < i → (-1000000000 ≤ S k + sg * T k ∧ S k + sg * T k ≤ 1000000000), Or.inr ⟨0, rfl, by omega, gfr_refl _ _ _, fun _ _ => rfl, fun k hk => by rw [if_neg (by omega)]; exact hS k hk, fun k hk => by omega⟩, ?_⟩
  rintro ⟨x, s1⟩ hI
  dsimp only at hI ⊢
  rcases hI with ⟨b1, nf⟩ | ⟨i, e, i9, f1, o1, z1, w1⟩
  · have no : addo S T sg none := Or.inl ⟨rfl, nf⟩
    refine ⟨fun _ _ s2 e2 => h2 no s2 (by subst e2; exact b1), fun _ _ _ _ _ s2 e2 _ => ?_⟩
    have b2 : rbd s2 (3, sp) := by subst e2; exact b1
    intro u eu
    exact ⟨fun _ => Or.inl ⟨b2, nf⟩, fun _ _ => fail_rb (by rw [b2.1]; exact b2.2.1) (Or.inl ⟨b2, nf⟩)⟩
  · subst e
    have d1 : cgf s1 582 21 = (d : Int) := by show s1.1 582 21 = _; rw [f1.1 _ _ (fun z => z)]; exact dp
    have g0 : s1.1 582 2 = 0 := by rw [f1.1 _ _ (fun z => z)]; exact h0
    unfold C_endTerm10_2
    rw [d1]
    refine ⟨fun c _ s2 e2 => ?_, fun c => ?_⟩
    · have fn : fin9 (fun k => S k + sg * T k) := fun k hk => w1 k (by omega)
      have f2 : gfr (fun _ _ => False) (fun c => c = 595) s1 s2 := by subst e2; exact gfr_pa (gfr_refl _ _ _) rfl
      refine h1 _ (Or.inr ⟨rfl, fn⟩) s2 (by rw [f2.1 _ _ (fun z => z)]; exact g0) (fun k hk => ?_) fn ?_ ⟨gfr_trans (gfr_mono f1 (fun c f e => e.elim) (fun c e => Or.inl e)) (gfr_mono f2 (fun c f e => e.elim) (fun c e => Or.inr e)), fun k hk => ?_, fun k hk => ?_⟩
      · rw [f2.2 _ (by omega), z1 k hk, if_pos (by omega)]
      · show s2.2 595 d = -1
        subst e2
        rw [cpa_at (m := d) (by omega), if_pos rfl]
      · rw [f2.2 _ (by omega)]; exact o1 k hk
      · subst e2
        rw [cpa_at (m := d) (by omega), if_neg hk, f1.2 _ (by omega)]
    · have i8 : i < 9 := by omega
      rw [w32_id (x := 9 * (d : Int)) (by omega) (by omega), w32_id (x := 9 * (d : Int) + (i : Int)) (by omega) (by omega)]
      intro _ _ _ _ s2 e2 _
      have y1 : cga s1 589 (9 * (d : Int) + (i : Int)) = S i := by show s1.2 589 (9 * (d : Int) + (i : Int)).toNat = _; rw [show (9 * (d : Int) + (i : Int)).toNat = 9 * d + i by omega, z1 i i8, if_neg (by omega)]
      have y2 : cga s1 590 (9 * (d : Int) + (i : Int)) = T i := by show s1.2 590 (9 * (d : Int) + (i : Int)).toNat = _; rw [show (9 * (d : Int) + (i : Int)).toNat = 9 * d + i by omega, f1.2 _ (by omega)]; exact hT i i8
      have y3 : cga s1 593 (d : Int) = sg := by show s1.2 593 ((d : Nat) : Int).toNat = _; rw [Int.toNat_natCast, f1.2 _ (by omega)]; exact hg
      have q1 := fS i i8
      have q2 := fT i i8
      have vv : w64 (S i + w64 (sg * T i)) = S i + sg * T i := by
        rcases g1 with q | q <;> subst q
        · rw [w64_id (x := 1 * T i) (by omega) (by omega), w64_id (by omega) (by omega)]
        · rw [w64_id (x := -1 * T i) (by omega) (by omega), w64_id (by omega) (by omega)]
      rw [y1, y2, y3, vv] at e2
      have f2 : gfr (fun _ _ => False) (fun c => c = 589) s1 s2 := by subst e2; exact gfr_pa (gfr_refl _ _ _) rfl
      have r2 : ∀ k, s2.2 589 k = if k = 9 * d + i then S i + sg * T i else s1.2 589 k := fun k => by subst e2; exact cpa_at (by omega) k
      have y4 : cga s2 589 (9 * (d : Int) + (i : Int)) = S i + sg * T i := by show s2.2 589 (9 * (d : Int) + (i : Int)).toNat = _; rw [show (9 * (d : Int) + (i : Int)).toNat = 9 * d + i by omega, r2, if_pos rfl]
      have g2 : s2.1 582 2 = 0 := by rw [f2.1 _ _ (fun z => z)]; exact g0
      have d2 : ∀ s9 : im_S, s9.1 582 21 = s2.1 582 21 → cgf s9 582 21 = (d : Int) := fun s9 h => by show s9.1 582 21 = _; rw [h, f2.1 _ _ (fun z => z), f1.1 _ _ (fun z => z)]; exact dp
      rw [y4]
      intro u eu
      by_cases fn : -1000000000 ≤ S i + sg * T i ∧ S i + sg * T i ≤ 1000000000
      · rw [if_neg (by omega), if_neg (by omega)] at eu
        subst eu
        refine ⟨fun _ => Or.inr ⟨i + 1, w32s (by omega), by omega, gfr_trans f1 f2, fun k hk => ?_, fun k hk => ?_, fun k hk => ?_⟩, fun z => absurd z (by decide)⟩
        · rw [r2, if_neg (by omega)]; exact o1 k hk
        · rw [r2]
          by_cases ck : k = i
          · subst ck; rw [if_pos rfl, if_pos (by omega)]
          · rw [if_neg (by omega), z1 k hk]
            by_cases q : k < i
            · rw [if_pos q, if_pos (by omega)]
            · rw [if_neg q, if_neg (by omega)]
        · by_cases ck : k = i
          · subst ck; exact fn
          · exact w1 k (by omega)
      · have eu : u = 0 := by
          rw [eu]
          by_cases q : S i + sg * T i < -1000000000
          · rw [if_pos q]
          · rw [if_neg q, if_pos (by omega)]
        subst eu
        refine ⟨fun z => absurd rfl z, fun _ _ => ?_⟩
        have y5 : cga s2 594 (d : Int) = sp := by show s2.2 594 ((d : Nat) : Int).toNat = _; rw [Int.toNat_natCast, f2.2 _ (by omega), f1.2 _ (by omega)]; exact hp
        rw [d2 s2 rfl, y5]
        exact fail_r g2 (by decide) (fun s3 b3 f3 => Or.inl ⟨b3, fun q => fn (q i i8)⟩)
